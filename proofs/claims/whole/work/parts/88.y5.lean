-- years by draws: the class
theorem wOut_irr (ru : Nat → Int) (W : Wk) (k a b c : Int) (h5 : k ≠ 5) (h6 : k ≠ 6) : wOut ru W k a b c = wOut ru W k 0 0 0 := by
  have e1 : wWhy ru W k a b c = wWhy ru W k 0 0 0 := by
    unfold wWhy
    rw [if_neg h5, if_neg h6, if_neg h5, if_neg h6]
  have e2 : wDone ru W k a b c = wDone ru W k 0 0 0 := by
    unfold wDone
    rw [if_neg h5, if_neg h6, if_neg h5, if_neg h6]
  unfold wOut
  rw [e1, e2]
theorem wOut_ir5 (ru : Nat → Int) (W : Wk) (a b c : Int) : wOut ru W 5 a b c = wOut ru W 5 a b 0 := by
  have e1 : wWhy ru W 5 a b c = wWhy ru W 5 a b 0 := by
    unfold wWhy
    simp
  have e2 : wDone ru W 5 a b c = wDone ru W 5 a b 0 := by
    unfold wDone
    simp
  unfold wOut
  rw [e1, e2]
theorem hAct_ex {ru : Nat → Int} {H : Hs} {k a b c a' b' c' : Int} (h : wOut ru H.W k a b c = wOut ru H.W k a' b' c') : hAct ru H k a b c = hAct ru H k a' b' c' := by
  unfold hAct
  rw [h]
theorem dPick_z (ru : Nat → Int) (x : Int64) : ((dPick ru x).1 ≠ 5 → (dPick ru x).1 ≠ 6 → (dPick ru x).2.1 = 0 ∧ (dPick ru x).2.2.1 = 0 ∧ (dPick ru x).2.2.2.1 = 0) ∧ ((dPick ru x).1 = 5 → (dPick ru x).2.2.2.1 = 0) := by
  unfold dPick
  split
  · exact ⟨fun _ _ => ⟨rfl, rfl, rfl⟩, fun _ => rfl⟩
  · split
    · exact ⟨fun _ _ => ⟨rfl, rfl, rfl⟩, fun _ => rfl⟩
    · split
      · exact ⟨fun _ _ => ⟨rfl, rfl, rfl⟩, fun _ => rfl⟩
      · split
        · exact ⟨fun h => absurd rfl h, fun _ => rfl⟩
        · exact ⟨fun _ h => absurd rfl h, fun h => absurd (show (6 : Int) = 5 from h) (by decide)⟩
theorem hPick_c (ru : Nat → Int) (H : Hs) (x : Int64) (a b c : Int) (h1 : (dPick ru x).1 = 5 ∨ (dPick ru x).1 = 6 → a = (dPick ru x).2.1 ∧ b = (dPick ru x).2.2.1) (h2 : (dPick ru x).1 = 6 → c = (dPick ru x).2.2.2.1) : hAct ru H (dPick ru x).1 a b c = hPick ru H x := by
  unfold hPick
  have hz := dPick_z ru x
  revert h1 h2 hz
  generalize (dPick ru x).1 = k
  generalize (dPick ru x).2.1 = a'
  generalize (dPick ru x).2.2.1 = b'
  generalize (dPick ru x).2.2.2.1 = c'
  intro h1 h2 hz
  by_cases k6 : k = 6
  · obtain ⟨rfl, rfl⟩ := h1 (Or.inr k6)
    rw [h2 k6]
  · by_cases k5 : k = 5
    · obtain ⟨rfl, rfl⟩ := h1 (Or.inl k5)
      subst k5
      rw [hz.2 rfl]
      exact hAct_ex (wOut_ir5 ru H.W a b c)
    · obtain ⟨z1, z2, z3⟩ := hz.1 k5 k6
      rw [z1, z2, z3]
      exact hAct_ex (wOut_irr ru H.W k a b c k5 k6)
def yS : List Nat := 5 :: aS
/-- the class holds the loan and its acts -/
def HK (σ : Mm) (ru : Nat → Int) (H : Hs) : Prop := Kr σ 2 H.W ∧ CI σ ru ∧ HC σ H ∧ WB ru H.W
section KYe
variable {l : Launch} {G : GT} {d : Nat} {σ : Mm} {Q : Po} {ru : Nat → Int} {H : Hs}
theorem k_years {y : Int32} {x : Int64} (n : Int) (hH : HK σ ru H) (hE : H.E < 900000) (rn : R31 n)
    (hq1 : ¬ (1 ≤ n ∧ n ≤ 40) → Q (some (.int (-1))) σ)
    (hq : 1 ≤ n ∧ n ≤ 40 → ∀ τ : Mm, (∀ c, c ∉ yS → τ.1 c = σ.1 c) → (∀ c, c ≠ 0 → τ.2 c = σ.2 c) → (∀ k, 7 ≤ k → τ.1 64 k = σ.1 64 k) → (∀ j, j < 4 → τ.1 4 j = σ.1 4 j) → HK τ ru (hYears ru n.toNat (H, x)) → Q (some (.int (jI ((hYears ru n.toNat (H, x)).W.f 7)))) τ) (ey : y = jI n := by first | rfl | assumption | (simp only [jlit, jneg, jadd, jsub, jmul]; done) | (simp only [jlit, jneg, jadd, jsub, jmul]; congr 1 <;> omega) | (congr 1 <;> omega)) : MW l G (d + 8) mX11_years [.ref 0, .int y, .long x] σ Q := by
  have hr := hH.2.1.1.1
  have hr' := hr
  unfold RB at hr'
  refine vX11_years [(28, [0, 1, 4])] 60 ?_
  refine k_noLoan (ru 1) (hH.2.1.1.2 1 (by omega)) (by omega) ?_
  rw [if_neg (by omega)]
  refine And.intro (fun _ => ?_) (fun q => absurd rfl q)
  refine brlt n 1 (fun q => hq1 (by omega)) (fun q1 => ?_)
  refine brle n 40 (fun q2 => ?_) (fun q => hq1 (by omega))
  have hq := hq ⟨q1, q2⟩
  obtain ⟨N, rfl⟩ : ∃ N : Nat, n = (N : Int) := ⟨n.toNat, by omega⟩
  rw [show (N : Int).toNat = N from Int.toNat_natCast N] at hq
  have key : ∀ (m i : Nat) (τ : Mm) (K : Hs) (z : Int64) (u : Int32), i + m = N → u = jI (i : Int) → (∀ c, c ∉ yS → τ.1 c = σ.1 c) → (∀ c, c ≠ 0 → τ.2 c = σ.2 c) → (∀ k, 7 ≤ k → τ.1 64 k = σ.1 64 k) → (∀ j, j < 4 → τ.1 4 j = σ.1 4 j) → HK τ ru K → K.E ≤ H.E + i → τ.2 0 13 = z → hYears ru N (H, x) = hYears ru m (K, z) → Wp l G (d + 8) mX11_years 28 [(0, .ref 0), (1, .int y), (4, .int u)] [] τ Q := by
    intro m
    induction m with
    | zero =>
      intro i τ K z u hn hu f1 f2 f3 f4 hK hKE hz he
      refine wX11_years [] 60 ?_
      refine brle (N : Int) (i : Int) (fun _ => ?_) (fun q => by omega)
      have he : hYears ru N (H, x) = K := by rw [he, hYears_0]
      rw [he] at hq
      refine ldI 115 6 (show _ = jI (K.W.f 7) from hK.1.1 6 (by omega)) ?_
      exact hq τ f1 f2 f3 f4 hK
    | succ m ih =>
      intro i τ K z u hn hu f1 f2 f3 f4 hK hKE hz he
      subst hu
      refine wX11_years [(28, [0, 1, 4])] 60 ?_
      refine brle (N : Int) (i : Int) (fun q => by omega) (fun _ => ?_)
      refine k_choose z hz hK.2.1.1 (fun ρ g1 g2 g3 g4 g5 g6 => ?_)
      have hp := dPick_in ru z
      have hpk := hPick_c ru K z (ρ.1 5 1).toInt (ρ.1 5 2).toInt (ρ.1 5 3).toInt
      have h64 : ∀ v : Int, 0 ≤ v ∧ v ≤ 1000 → (jI v).toInt = v := fun v hv => jI_T (by omega)
      have hpk := hpk (fun q => by
        obtain ⟨w1, w2⟩ := g5 q
        rw [w1, w2]
        exact ⟨h64 _ hp.2.1, h64 _ hp.2.2.1⟩) (fun q => by rw [g6 q]; exact h64 _ hp.2.2.2)
      have hpb := hPick_B hr hK.2.2.2 z
      have hpe : (hPick ru K z).E ≤ K.E + 1 := hAct_E ru K _ _ _ _
      obtain ⟨xn, ex⟩ : ∃ v, v = (dPick ru z).2.2.2.2 := ⟨_, rfl⟩
      have hst : hStep ru (K, z) = (hPick ru K z, xn) := by rw [ex]; rfl
      rw [← ex] at g3
      revert hp hpk g4 g5 g6
      generalize (dPick ru z).1 = k
      intro g4 g5 g6 hp hpk
      refine ldI 4 0 g4 ?_
      refine ldI 4 1 rfl ?_
      refine ldI 4 2 rfl ?_
      refine ldI 4 3 rfl ?_
      have hC2 : CI ρ ru := hK.2.1.frS (g1 1 (by decide)) (fun c hc => g1 c (by rintro rfl; exact absurd hc (by decide)))
      have hH2 : HC ρ K := hK.2.2.1.fr (g1 64 (by decide)) (g1 65 (by decide)) (g1 66 (by decide))
      refine k_act k (ρ.1 5 1).toInt (ρ.1 5 2).toInt (ρ.1 5 3).toInt 0 (Or.inl rfl) (hK.1.fr (g1 2 (by decide))) hC2 hK.2.2.2 hH2 (by omega) hp.1 (jI_R _) (jI_R _) (jI_R _) (fun τ2 m1 m2 m3 m4 m5 m6 m7 => ?_) rfl (jI_of _).symm (jI_of _).symm (jI_of _).symm
      rw [hpk] at m4 m6
      refine ih (i + 1) τ2 (hPick ru K z) xn _ (by omega) (by first | rfl | assumption | (simp only [jlit, jneg, jadd, jsub, jmul]; done) | (simp only [jlit, jneg, jadd, jsub, jmul]; congr 1 <;> omega) | (congr 1 <;> omega)) (fun c q => ?_) (fun c q => by rw [m2, g2 c q]; exact f2 c q) (fun k hk => by rw [m3 k hk, g1 64 (by decide)]; exact f3 k hk) (fun j hj => ?_) ⟨m4, m5, m6, hpb⟩ (by omega) (by rw [m2]; exact g3) (by rw [he, hYears_s, hst])
      · have q' := q
        unfold yS at q'
        rw [List.mem_cons, not_or] at q'
        rw [m1 c q'.2, g1 c q'.1]
        exact f1 c q
      · rw [m7 j]
        unfold sUp
        rw [if_neg (fun z => absurd (show (0 : Int) = 1 from z.1) (by decide)), g1 4 (by decide)]
        exact f4 j hj
  have e0 : ∀ c, c ≠ 0 → (uJ σ 0 13 x).2 c = σ.2 c := fun c hc => uJ_n hc
  refine key N 0 (uJ σ 0 13 x) H x _ (by omega) rfl (fun _ _ => rfl) e0 (fun _ _ => rfl) (fun _ _ => rfl) ?_ (by omega) (by rw [uJ_s, updL_s]) rfl
  exact ⟨hH.1.fr rfl, hH.2.1.frS rfl (fun _ _ => rfl), hH.2.2.1.fr rfl rfl rfl, hH.2.2.2⟩
end KYe
