-- tellRate of the class
theorem Kr.putR {σ : Mm} {a : Nat} {W : Wk} (h : Kr σ a W) (t k : Nat) (z : Int) {v : Int32} (ht : t < 12) (hk : k ≤ t) (hz : 0 ≤ z ∧ z ≤ 999) (hv : v = jI z) : Kr (uI σ a (25 + nd t k) v) a (W.putR t k z) := by
  subst hv
  obtain ⟨h1, h2, h3, h4, h5⟩ := h
  have hn := nd_lt2 ht hk
  have e : ∀ i, i ≠ 25 + nd t k → (uI σ a (25 + nd t k) (jI z)).1 a i = σ.1 a i := fun i hi => uI_ne (Or.inr hi)
  have ed : deS (uI σ a (25 + nd t k) (jI z)) a = deS σ a := deS_eq (fun i _ _ => e i (by omega))
  refine ⟨fun j hj => by rw [e j (by omega)]; exact h1 j hj, (amS_eq (fun i _ _ => e i (by omega))).trans h2, ?_, ed.trans h4, fun i q1 q2 => by rw [e i (by omega)]; exact h5.1 i q1 q2, fun i q1 q2 => ?_, fun t i => by rw [ed]; exact h5.2.2 t i⟩
  · funext i j
    show _ = (if i = t ∧ j = k then z else W.ra i j)
    unfold raS
    by_cases q : i = t ∧ j = k
    · obtain ⟨rfl, rfl⟩ := q
      rw [if_pos ⟨hk, ht⟩, if_pos ⟨rfl, rfl⟩, uI_at, jI_T (by omega), Int.add_zero, bnd_id hz.1 hz.2]
    · rw [if_neg q, ← h3]
      unfold raS
      by_cases q2 : j ≤ i ∧ i < 12
      · rw [if_pos q2, if_pos q2, e _ (fun w => q (nd_inj q2.1 hk (by omega)))]
      · rw [if_neg q2, if_neg q2]
  · by_cases q : i = 25 + nd t k
    · rw [q, uI_at, jI_T (by omega)]
      exact hz
    · rw [e i q]
      exact h5.2.1 i q1 q2
section KX
variable {l : Launch} {G : GT} {d : Nat} {σ : Mm} {Q : Po} {ru : Nat → Int} {W : Wk}
theorem k_tellRate {x y u : Int32} (a b c : Int) (hK : Kr σ 2 W) (hR : RC σ ru) (hB : WB ru W) (h6 : W.f 6 = 0) (ra : R31 a) (rb : R31 b) (rc : R31 c)
    (hq1 : wWhy ru W 6 a b c ≠ -1 → Q (some (.int (jI (-1 - wWhy ru W 6 a b c)))) σ) (hq : wWhy ru W 6 a b c = -1 → ∀ τ : Mm, (∀ c, c ≠ 2 → c ≠ 63 → τ.1 c = σ.1 c) → τ.2 = σ.2 → τ.1 63 3 = jI a → Kr τ 2 (W.putR a.toNat b.toNat c) → Q (some (.int (jI (W.ra a.toNat b.toNat)))) τ) (ex : x = jI a := by first | rfl | assumption | (simp only [jlit, jneg, jadd, jsub, jmul]; done) | (simp only [jlit, jneg, jadd, jsub, jmul]; congr 1 <;> omega) | (congr 1 <;> omega)) (ey : y = jI b := by first | rfl | assumption | (simp only [jlit, jneg, jadd, jsub, jmul]; done) | (simp only [jlit, jneg, jadd, jsub, jmul]; congr 1 <;> omega) | (congr 1 <;> omega)) (eu : u = jI c := by first | rfl | assumption | (simp only [jlit, jneg, jadd, jsub, jmul]; done) | (simp only [jlit, jneg, jadd, jsub, jmul]; congr 1 <;> omega) | (congr 1 <;> omega)) : MW l G (d + 1) mX3_tellRate [.ref 63, .int x, .int y, .int u] σ Q := by
  have hr := hR.1
  have hr' := hr
  unfold RB at hr'
  obtain ⟨b1, bc, b3, b4, b6, b7, b8, t1, t2, t3⟩ := hB
  unfold wWhy at hq1 hq
  rw [if_neg (by omega), if_neg (by omega), if_neg (by omega), if_neg (by omega), if_pos rfl] at hq1 hq
  have bad : ¬ ((0 ≤ a ∧ a < ru 1 ∧ 0 ≤ b ∧ b ≤ a) ∧ (W.f 0 ≤ a ∧ W.f 1 ≤ b ∧ b - W.f 1 ≤ a - W.f 0)) → Q (some (.int (jI (-1)))) σ := by
    intro q
    rw [if_pos q] at hq1
    exact hq1 (by decide)
  have g0 : σ.1 2 0 = jI (W.f 0) := hK.1 0 (by omega)
  have g1 : σ.1 2 1 = jI (W.f 1) := hK.1 1 (by omega)
  refine vX3_tellRate [] 100 ?_
  refine ldI 115 0 g0 ?_
  refine brlt a (W.f 0) (fun z => bad (by omega)) (fun z => ?_) ex rfl
  refine ldI 14 1 (hR.2 1 (by omega)) ?_
  refine brlt a (ru 1) (fun z2 => ?_) (fun z2 => bad (by omega)) ex rfl
  refine ldI 115 1 g1 ?_
  refine brlt b (W.f 1) (fun z3 => bad (by omega)) (fun z3 => ?_) ey rfl
  refine ldI 115 1 g1 ?_
  refine ldI 115 0 g0 ?_
  refine brle b (W.f 1 + a - W.f 0) (fun z4 => ?_) (fun z4 => bad (by omega)) ey (by rw [ex, jadd, jsub])
  rw [if_neg (by omega)] at hq1 hq
  have bad2 : ¬ (0 ≤ c ∧ c ≤ 999) → Q (some (.int (jI (-2)))) σ := by
    intro q
    rw [if_pos q] at hq1
    exact hq1 (by decide)
  refine brlt c 0 (fun z5 => bad2 (by omega)) (fun z5 => ?_) eu
  refine brle c 999 (fun z6 => ?_) (fun z6 => bad2 (by omega)) eu
  rw [if_neg (by omega)] at hq1 hq
  have hta : ((a.toNat : Nat) : Int) = a := Int.toNat_of_nonneg (by omega)
  have htb : ((b.toNat : Nat) : Int) = b := Int.toNat_of_nonneg (by omega)
  have hn := nd_lt2 (t := a.toNat) (h := b.toNat) (by omega) (by omega)
  have hra := t2 a.toNat b.toNat
  refine k_nodeOf a.toNat b.toNat ?_ (by rw [ex, hta]) (by rw [ey, htb])
  refine ldI 115 (25 + nd a.toNat b.toNat) (hK.rate (by omega) (by omega)) ?_
  refine breq (W.ra a.toNat b.toNat) c (fun z7 => ?_) (fun z7 => ?_) rfl eu
  · rw [if_pos z7] at hq1
    exact hq1 (by decide)
  · rw [if_neg z7] at hq
    refine stI 115 (25 + nd a.toNat b.toNat) ?_
    exact hq rfl _ (fun c h1 h2 => by rw [uI_n h2, uI_n h1]) rfl (by rw [uI_at]; exact ex) ((hK.putR a.toNat b.toNat c (by omega) (by omega) (by omega) eu).fr (uI_n (by decide)))
end KX
