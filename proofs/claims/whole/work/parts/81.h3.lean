-- an act tried: the reference
/-- the row, how many acts in all, the log, how many can be taken back, their rows -/
def Hs : Type := Wk × Nat × (Nat → Nat → Int32) × Nat × (Nat → Wk)
def Hs.W (H : Hs) : Wk := H.1
def Hs.E (H : Hs) : Nat := H.2.1
def Hs.L (H : Hs) : Nat → Nat → Int32 := H.2.2.1
def Hs.A (H : Hs) : Nat := H.2.2.2.1
def Hs.V (H : Hs) : Nat → Wk := H.2.2.2.2
def hDo (H : Hs) (W : Wk) (k nt : Int) : Hs := (W, H.E + 1, Lp H.L H.E (jI k) (jI nt) (jI (W.f 7)), min 40 (H.A + 1), Vp H.W H.V)
def hAct (ru : Nat → Int) (H : Hs) (k a b c : Int) : Hs := if (wOut ru H.W k a b c).1 = -1 then hDo H (wOut ru H.W k a b c).2.2.2 k (wOut ru H.W k a b c).2.2.1 else H
def HM (σ : Mm) (ru : Nat → Int) (H : Hs) : Prop := Rw (σ.1 108) ru H.W H.E H.L ∧ ∃ F, Kp σ ru H.A F H.V H.E H.L
theorem Kp.fr {σ τ : Mm} {ru : Nat → Int} {A F : Nat} {V : Nat → Wk} {E : Nat} {L L' : Nat → Nat → Int32} (h : Kp σ ru A F V E L) (e1 : τ.1 98 24 = σ.1 98 24) (e2 : τ.1 98 25 = σ.1 98 25) (e3 : τ.1 111 = σ.1 111) (e : ∀ p q, p + 1 < E → q < 3 → L' p q = L p q) : Kp τ ru A F V E L' := by
  obtain ⟨a1, a2, f1, f2, a3, hk⟩ := h
  refine ⟨a1, a2, f1, by rw [e1]; exact f2, by rw [e2]; exact a3, fun j hj => ?_⟩
  rw [e3]
  exact (hk j hj).ex (fun p q hp hq => e p q (by omega) hq)
theorem wDeed_cl (ru : Nat → Int) (W : Wk) (dd : Int) : -1 ≤ (wDeed ru W dd).1 ∧ (wDeed ru W dd).1 ≤ 3 ∧ ((wDeed ru W dd).1 ≠ -1 → (wDeed ru W dd).2.2.2 = W) := by
  unfold wDeed
  split
  · exact ⟨show (-1 : Int) ≤ 2 by decide, show (2 : Int) ≤ 3 by decide, fun _ => rfl⟩
  · exact ⟨show (-1 : Int) ≤ -1 by decide, show (-1 : Int) ≤ 3 by decide, fun q => absurd rfl q⟩
theorem wOut_in (ru : Nat → Int) (W : Wk) (k a b c : Int) : -1 ≤ (wOut ru W k a b c).1 ∧ (wOut ru W k a b c).1 ≤ 3 ∧ ((wOut ru W k a b c).1 ≠ -1 → (wOut ru W k a b c).2.2.2 = W) := by
  have h := wWhy_in ru W k a b c
  have m1 : ∀ (x y : Int) (V : Wk), -1 ≤ ((-1, x, y, V) : Int × Int × Int × Wk).1 ∧ ((-1, x, y, V) : Int × Int × Int × Wk).1 ≤ 3 ∧ (((-1, x, y, V) : Int × Int × Int × Wk).1 ≠ -1 → ((-1, x, y, V) : Int × Int × Int × Wk).2.2.2 = W) := fun x y V => ⟨show (-1 : Int) ≤ -1 by decide, show (-1 : Int) ≤ 3 by decide, fun q => absurd rfl q⟩
  unfold wOut
  split
  · exact ⟨h.1, h.2, fun _ => rfl⟩
  · unfold wDone
    split
    · exact m1 _ _ _
    split
    · exact m1 _ _ _
    split
    · exact m1 _ _ _
    split
    · exact m1 _ _ _
    split
    · exact m1 _ _ _
    split
    · exact wDeed_cl ru W _
    split
    · show -1 ≤ (if wN ru W = 0 then 2 else -1 : Int) ∧ (if wN ru W = 0 then 2 else -1 : Int) ≤ 3 ∧ ((if wN ru W = 0 then 2 else -1 : Int) ≠ -1 → wAdopt ru W = W)
      split
      · next q => exact ⟨by decide, by decide, fun _ => wAdopt_id q⟩
      · exact ⟨by decide, by decide, fun q => absurd rfl q⟩
    · exact wDeed_cl ru W _
def FT (σ τ : Mm) : Prop := (∀ a, a ∉ [98, 108, 109, 111, 112, 113, 114] → τ.1 a = σ.1 a) ∧ (∀ a, a ∉ [112, 113, 114, 117] → τ.2 a = σ.2 a) ∧ (∀ k, k ∉ [24, 25, 33, 34] → τ.1 98 k = σ.1 98 k)
theorem FT.rf {σ : Mm} : FT σ σ := ⟨fun _ _ => rfl, fun _ _ => rfl, fun _ _ => rfl⟩
theorem FT.tr {σ τ ρ : Mm} (h : FT σ τ) (g : FT τ ρ) : FT σ ρ := ⟨fun a q => (g.1 a q).trans (h.1 a q), fun a q => (g.2.1 a q).trans (h.2.1 a q), fun a q => (g.2.2 a q).trans (h.2.2 a q)⟩
section MTr
variable {l : Launch} {G : GT} {d : Nat} {σ : Mm} {Q : Po} {ru : Nat → Int} {H : Hs}
theorem c_tries {x y z u : Int32} (k a b c : Int) (hI : σ.1 98 17 = 1) (hE : ME σ ru) (hH : HM σ ru H) (hs : σ.1 98 27 = 0) (hB : WB ru H.W) (hk : 0 ≤ k ∧ k ≤ 9) (ra : R31 a) (rb : R31 b) (rc : R31 c)
    (hq : ∀ τ, FT σ τ → HM τ ru (hAct ru H k a b c) → ((wOut ru H.W k a b c).1 = -1 → τ.1 98 33 = jI (wOut ru H.W k a b c).2.1) → Q (some (.int (jI (wOut ru H.W k a b c).1))) τ)
    (ex : x = jI k := by first | rfl | assumption | (simp only [jlit, jneg, jadd, jsub, jmul]; done) | (simp only [jlit, jneg, jadd, jsub, jmul]; congr 1 <;> omega) | (congr 1 <;> omega)) (ey : y = jI a := by first | rfl | assumption | (simp only [jlit, jneg, jadd, jsub, jmul]; done) | (simp only [jlit, jneg, jadd, jsub, jmul]; congr 1 <;> omega) | (congr 1 <;> omega)) (ez : z = jI b := by first | rfl | assumption | (simp only [jlit, jneg, jadd, jsub, jmul]; done) | (simp only [jlit, jneg, jadd, jsub, jmul]; congr 1 <;> omega) | (congr 1 <;> omega)) (eu : u = jI c := by first | rfl | assumption | (simp only [jlit, jneg, jadd, jsub, jmul]; done) | (simp only [jlit, jneg, jadd, jsub, jmul]; congr 1 <;> omega) | (congr 1 <;> omega)) : MW l G (d + 12) mX12_tries [.ref 98, .int x, .int y, .int z, .int u] σ Q := by
  obtain ⟨h1, F, h2⟩ := hH
  have hr := hE.1
  have ho := wOut_in ru H.W k a b c
  refine vX12_tries [] 40 ?_
  refine c_copyRow 0 0 (by decide) (by decide) (by decide) (by decide) (by decide) (fun τ1 g1 g2 g3 => ?_)
  have t1 : Rw (τ1.1 109) ru H.W H.E H.L := h1.fr (fun k hk => by rw [g3, if_pos (by omega), show 0 + (k - 0) = k by omega]) hr
  have g8 : τ1.1 108 = σ.1 108 := g2 108 (by decide)
  have g98 : τ1.1 98 = σ.1 98 := g2 98 (by decide)
  refine c_does k a b c (Or.inl rfl) (by rw [g98]; exact hI) (hE.fr (g2 101 (by decide))) (Rw.mr (w := 108) (by rw [g8]; exact h1)) (by rw [g98]; exact hs) hB hk ra rb rc (fun τ2 f1 f2 f3 => ?_)
  have ft2 : ∀ a, a ∉ [98, 108, 109, 111, 112, 113, 114] → τ2.1 a = σ.1 a := fun a q => by
    simp only [List.mem_cons, List.not_mem_nil, or_false, not_or] at q
    rw [f1.1 a (by simp; omega) (by omega), g2 a (by omega)]
  have log2 : ∀ k, 313 ≤ k → τ2.1 108 k = σ.1 108 k := fun k hk => by rw [f1.2.2.2 k hk, g8]
  have n98 : ∀ k, k ≠ 33 → k ≠ 34 → τ2.1 98 k = σ.1 98 k := fun k q1 q2 => by rw [f1.2.2.1 k q1 q2, g98]
  have e111 : τ2.1 111 = σ.1 111 := by rw [f1.1 111 (by decide) (by decide), g2 111 (by decide)]
  have r2 : Rw (τ2.1 108) ru (wOut ru H.W k a b c).2.2.2 H.E H.L := ⟨f2, by rw [log2 313 (by omega)]; exact h1.2.1, fun i q hi hq => by rw [log2 _ (by omega)]; exact h1.2.2 i q hi hq⟩
  refine breq (wOut ru H.W k a b c).1 (-1) (fun hy => ?_) (fun hn => ?_)
  · have k2 : Kp τ2 ru H.A F H.V H.E H.L := h2.fr (n98 24 (by decide) (by decide)) (n98 25 (by decide) (by decide)) e111 (fun _ _ _ _ => rfl)
    have t2 : Rw (τ2.1 109) ru H.W H.E H.L := by rw [f1.1 109 (by decide) (by decide)]; exact t1
    refine c_remember hr t2 k2 (fun τ3 F' m1 m2 m3 m4 => ?_)
    have r3 : Rw (τ3.1 108) ru (wOut ru H.W k a b c).2.2.2 H.E H.L := by rw [m1 108 (by decide) (by decide)]; exact r2
    refine c_notes hr r3 (fun τ4 p1 p2 p3 p4 => ?_)
    obtain ⟨c1, c2⟩ := f3 hy
    have e34 : τ3.1 98 34 = jI (wOut ru H.W k a b c).2.2.1 := by rw [m3 34 (by decide) (by decide)]; exact c2
    have e7 : τ3.1 108 7 = jI ((wOut ru H.W k a b c).2.2.2.f 7) := r3.1.1 7 (by omega)
    rw [e34, e7, ex] at p4
    rw [show (-1 : Int32) = jI (wOut ru H.W k a b c).1 by rw [hy]; rfl]
    refine hq τ4 ⟨fun a q => ?_, fun a q => ?_, fun k q => ?_⟩ ?_ (fun _ => by rw [p1 98 (by decide), m3 33 (by decide) (by decide)]; exact c1)
    · rw [← ft2 a q]
      simp only [List.mem_cons, List.not_mem_nil, or_false, not_or] at q
      rw [p1 a (by omega), m1 a (by omega) (by omega)]
    · rw [p2, m2, f1.2.1 a q, g1]
    · simp only [List.mem_cons, List.not_mem_nil, or_false, not_or] at q
      rw [p1 98 (by decide), m3 k (by omega) (by omega), n98 k (by omega) (by omega)]
    · unfold hAct
      rw [if_pos hy]
      refine ⟨p4, F', m4.fr (by rw [p1 98 (by decide)]) (by rw [p1 98 (by decide)]) (p1 111 (by decide)) (fun p q hp hq => ?_)⟩
      show Lp H.L H.E _ _ _ p q = _
      unfold Lp
      rw [if_neg (by omega)]
  · refine hq τ2 ⟨ft2, fun a q => by rw [f1.2.1 a q, g1], fun k q => ?_⟩ ?_ (fun q => absurd q hn)
    · simp only [List.mem_cons, List.not_mem_nil, or_false, not_or] at q
      exact n98 k (by omega) (by omega)
    · unfold hAct
      rw [if_neg hn]
      rw [ho.2.2 hn] at r2
      exact ⟨r2, F, h2.fr (n98 24 (by decide) (by decide)) (n98 25 (by decide) (by decide)) e111 (fun _ _ _ _ => rfl)⟩
end MTr
