-- years by draws: the reference
def itr {α : Type} (f : α → α) : Nat → α → α
  | 0, a => a
  | n + 1, a => itr f n (f a)
theorem itr_s {α : Type} (f : α → α) (n : Nat) (a : α) : itr f (n + 1) a = itr f n (f a) := rfl
def hStep (ru : Nat → Int) (p : Hs × Int64) : Hs × Int64 := (hPick ru p.1 p.2, (dPick ru p.2).2.2.2.2)
def hYears (ru : Nat → Int) (n : Nat) (p : Hs × Int64) : Hs := (itr (hStep ru) n p).1
theorem hYears_0 (ru : Nat → Int) (p : Hs × Int64) : hYears ru 0 p = p.1 := rfl
theorem hYears_s (ru : Nat → Int) (n : Nat) (p : Hs × Int64) : hYears ru (n + 1) p = hYears ru n (hStep ru p) := by
  unfold hYears
  rw [itr_s]
theorem hAct_W (ru : Nat → Int) (H : Hs) (k a b c : Int) : (hAct ru H k a b c).W = (wOut ru H.W k a b c).2.2.2 := by
  unfold hAct
  split
  · rfl
  · next q => exact ((wOut_in ru H.W k a b c).2.2 q).symm
theorem hAct_B {ru : Nat → Int} {H : Hs} (hr : RB ru) (hB : WB ru H.W) (k a b c : Int) (hk : 0 ≤ k ∧ k ≤ 9) : WB ru (hAct ru H k a b c).W := by
  rw [hAct_W]
  exact WB_out hr hB k a b c hk
theorem hAct_E (ru : Nat → Int) (H : Hs) (k a b c : Int) : (hAct ru H k a b c).E ≤ H.E + 1 := by
  unfold hAct
  split
  · exact Nat.le_refl _
  · omega
theorem hPick_B {ru : Nat → Int} {H : Hs} (hr : RB ru) (hB : WB ru H.W) (x : Int64) : WB ru (hPick ru H x).W := hAct_B hr hB _ _ _ _ (dPick_in ru x).1
theorem hYears_B {ru : Nat → Int} (hr : RB ru) (n : Nat) : ∀ (p : Hs × Int64), WB ru p.1.W → WB ru (hYears ru n p).W := by
  induction n with
  | zero => intro p hB; rw [hYears_0]; exact hB
  | succ n ih => intro p hB; rw [hYears_s]; exact ih _ (hPick_B hr hB p.2)
theorem hYears_E (ru : Nat → Int) (n : Nat) : ∀ (p : Hs × Int64), (hYears ru n p).E ≤ p.1.E + n := by
  induction n with
  | zero => intro p; rw [hYears_0]; exact Nat.le_refl _
  | succ n ih =>
    intro p
    rw [hYears_s]
    have h1 := ih (hStep ru p)
    have h2 : (hStep ru p).1.E ≤ p.1.E + 1 := hAct_E ru p.1 _ _ _ _
    omega
/-- the frame of acts, with what was thrown -/
def FA (σ τ : Mm) : Prop := (∀ a, a ∉ [98, 108, 109, 111, 112, 113, 114] → τ.1 a = σ.1 a) ∧ (∀ a, a ∉ [98, 112, 113, 114, 117] → τ.2 a = σ.2 a) ∧ (∀ k, k ∉ [0, 24, 25, 33, 34] → τ.1 98 k = σ.1 98 k)
theorem FY.a {σ τ : Mm} (h : FY σ τ) : FA σ τ := ⟨h.1, h.2.1, fun k q => h.2.2 k (by
  simp only [List.mem_cons, List.not_mem_nil, or_false, not_or] at q ⊢
  omega)⟩
theorem FA.tr {σ τ ρ : Mm} (h : FA σ τ) (g : FA τ ρ) : FA σ ρ := ⟨fun a q => (g.1 a q).trans (h.1 a q), fun a q => (g.2.1 a q).trans (h.2.1 a q), fun a q => (g.2.2 a q).trans (h.2.2 a q)⟩
theorem FA.th {σ : Mm} {v : Int32} : FA σ (uI σ 98 0 v) := ⟨fun a q => by rw [uI_n (fun z => q (by rw [z]; simp))], fun _ _ => rfl, fun k q => by rw [uI_ne (Or.inr (fun z => q (by rw [z]; simp)))]⟩
theorem HM.th {σ : Mm} {ru : Nat → Int} {H : Hs} {v : Int32} (h : HM σ ru H) : HM (uI σ 98 0 v) ru H := by
  obtain ⟨h1, F, h2⟩ := h
  exact ⟨by rw [uI_n (by decide)]; exact h1, F, h2.fr (by rw [uI_ne (Or.inr (by decide))]) (by rw [uI_ne (Or.inr (by decide))]) (by rw [uI_n (by decide)]) (fun _ _ _ _ => rfl)⟩
section MYe
variable {l : Launch} {G : GT} {d : Nat} {σ : Mm} {Q : Po} {ru : Nat → Int} {H : Hs}
theorem c_years {y : Int32} {x : Int64} (n : Int) (hI : σ.1 98 17 = 1) (hE : ME σ ru) (hH : HM σ ru H) (hs : σ.1 98 27 = 0) (hB : WB ru H.W) (rn : R31 n)
    (hq1 : ¬ (1 ≤ n ∧ n ≤ 40) → Q (some (.int (-1))) (uI σ 98 0 0))
    (hq : 1 ≤ n ∧ n ≤ 40 → ∀ τ, FA σ τ → HM τ ru (hYears ru n.toNat (H, x)) → Q (some (.int (jI ((hYears ru n.toNat (H, x)).W.f 7)))) τ) (ey : y = jI n := by first | rfl | assumption | (simp only [jlit, jneg, jadd, jsub, jmul]; done) | (simp only [jlit, jneg, jadd, jsub, jmul]; congr 1 <;> omega) | (congr 1 <;> omega)) : MW l G (d + 14) mX12_years [.ref 98, .int y, .long x] σ Q := by
  have hr := hE.1
  refine vX12_years [(34, [0, 1, 4])] 60 ?_
  refine And.intro (fun q => absurd (hI.symm.trans q) (by decide)) (fun _ => ?_)
  refine c_isIn n 1 40 ?_ (by rw [ey, jI_L rn])
  refine brz _ (fun q => hq1 q) (fun q => ?_)
  have hq := hq q
  obtain ⟨N, rfl⟩ : ∃ N : Nat, n = (N : Int) := ⟨n.toNat, by omega⟩
  rw [show (N : Int).toNat = N from Int.toNat_natCast N] at hq
  have key : ∀ (m i : Nat) (τ : Mm) (K : Hs) (z : Int64) (u : Int32), i + m = N → u = jI (i : Int) → FA σ τ → HM τ ru K → WB ru K.W → τ.2 98 36 = z → hYears ru N (H, x) = hYears ru m (K, z) → Wp l G (d + 14) mX12_years 34 [(0, .ref 98), (1, .int y), (4, .int u)] [] τ Q := by
    intro m
    induction m with
    | zero =>
      intro i τ K z u hn hu f hK hBK hz he
      refine wX12_years [] 40 ?_
      refine brle (N : Int) (i : Int) (fun _ => ?_) (fun q => by omega)
      have he : hYears ru N (H, x) = K := by rw [he, hYears_0]
      rw [he] at hq
      refine ldI 494 7 (show _ = jI (K.W.f 7) from hK.1.1.1 7 (by omega)) ?_
      exact hq τ f hK
    | succ m ih =>
      intro i τ K z u hn hu f hK hBK hz he
      subst hu
      refine wX12_years [(34, [0, 1, 4])] 40 ?_
      refine brle (N : Int) (i : Int) (fun q => by omega) (fun _ => ?_)
      refine c_happens z hz (by rw [f.2.2 17 (by decide)]; exact hI) (hE.fr (f.1 101 (by decide))) hK (by rw [f.2.2 27 (by decide)]; exact hs) hBK (fun ρ v g1 g2 g3 => ?_)
      refine ih (i + 1) ρ (hPick ru K z) (dPick ru z).2.2.2.2 _ (by omega) (by first | rfl | assumption | (simp only [jlit, jneg, jadd, jsub, jmul]; done) | (simp only [jlit, jneg, jadd, jsub, jmul]; congr 1 <;> omega) | (congr 1 <;> omega)) (f.tr g1.a) g2 (hPick_B hr hBK z) g3 ?_
      rw [he, hYears_s]
      rfl
  refine key N 0 _ H x _ (by omega) rfl ⟨fun a q => ?_, fun a q => ?_, fun k q => ?_⟩ ?_ hB ?_ rfl
  · exact FA.th.1 a q
  · rw [uJ_n (fun z => q (by rw [z]; simp))]
    rfl
  · exact FA.th.2.2 k q
  · exact (hH.th (v := 0)).fr rfl
  · rw [uJ_s, updL_s]
end MYe
