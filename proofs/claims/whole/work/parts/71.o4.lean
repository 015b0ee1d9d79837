-- tellInstalment of the class
theorem Kr.putA {σ : Mm} {a : Nat} {W : Wk} (h : Kr σ a W) (j : Nat) (z : Int) {v : Int32} (hj : j < 13) (hz : 0 ≤ z ∧ z ≤ 9999) (hv : v = jI z) : Kr (uI σ a (12 + j) v) a (W.putA j z) := by
  subst hv
  obtain ⟨h1, h2, h3, h4, h5⟩ := h
  have e : ∀ i, i ≠ 12 + j → (uI σ a (12 + j) (jI z)).1 a i = σ.1 a i := fun i hi => uI_ne (Or.inr hi)
  have ed : deS (uI σ a (12 + j) (jI z)) a = deS σ a := deS_eq (fun i _ _ => e i (by omega))
  refine ⟨fun k hk => by rw [e k (by omega)]; exact h1 k hk, ?_, (raS_eq (fun i _ _ => by rw [e i (by omega)])).trans h3, ed.trans h4, fun i q1 q2 => ?_, fun i q1 q2 => by rw [e i (by omega)]; exact h5.2.1 i q1 q2, fun t i => by rw [ed]; exact h5.2.2 t i⟩
  · funext i
    show _ = (if i = j then z else W.am i)
    unfold amS
    by_cases q : i = j
    · subst q
      rw [if_pos hj, if_pos rfl, uI_at, jI_T (by omega)]
    · rw [if_neg q, ← h2]
      unfold amS
      by_cases q2 : i < 13
      · rw [if_pos q2, if_pos q2, e _ (by omega)]
      · rw [if_neg q2, if_neg q2]
  · by_cases q : i = 12 + j
    · rw [q, uI_at, jI_T (by omega)]
      exact hz
    · rw [e i q]
      exact h5.1 i q1 q2
theorem Kr.am {σ : Mm} {a : Nat} {W : Wk} (h : Kr σ a W) (j : Nat) (hj : j < 13) : σ.1 a (12 + j) = jI (W.am j) := by
  rw [← h.2.1]
  unfold amS
  rw [if_pos hj]
  exact (jI_of _).symm
section KS
variable {l : Launch} {G : GT} {d : Nat} {σ : Mm} {Q : Po} {ru : Nat → Int} {W : Wk}
theorem k_tellInstalment {x y : Int32} (a b : Int) (hK : Kr σ 2 W) (hR : RC σ ru) (hB : WB ru W) (h6 : W.f 6 = 0) (ra : R31 a) (rb : R31 b)
    (hq1 : wWhy ru W 5 a b 0 ≠ -1 → Q (some (.int (jI (-1 - wWhy ru W 5 a b 0)))) σ) (hq : wWhy ru W 5 a b 0 = -1 → ∀ τ : Mm, (∀ c, c ≠ 2 → c ≠ 63 → τ.1 c = σ.1 c) → τ.2 = σ.2 → τ.1 63 3 = jI a → Kr τ 2 (W.putA a.toNat b) → Q (some (.int (jI (W.am a.toNat)))) τ) (ex : x = jI a := by first | rfl | assumption | (simp only [jlit, jneg, jadd, jsub, jmul]; done) | (simp only [jlit, jneg, jadd, jsub, jmul]; congr 1 <;> omega) | (congr 1 <;> omega)) (ey : y = jI b := by first | rfl | assumption | (simp only [jlit, jneg, jadd, jsub, jmul]; done) | (simp only [jlit, jneg, jadd, jsub, jmul]; congr 1 <;> omega) | (congr 1 <;> omega)) : MW l G d mX3_tellInstalment [.ref 63, .int x, .int y] σ Q := by
  have hr := hR.1
  have hr' := hr
  unfold RB at hr'
  obtain ⟨b1, bc, b3, b4, b6, b7, b8, t1, t2, t3⟩ := hB
  unfold wWhy at hq1 hq
  rw [if_neg (by omega), if_neg (by omega), if_neg (by omega), if_pos rfl] at hq1 hq
  have bad : ¬ (W.f 0 + 1 ≤ a ∧ a ≤ ru 1 - 1) → Q (some (.int (jI (-1)))) σ := by
    intro q
    rw [if_pos q] at hq1
    exact hq1 (by decide)
  refine vX3_tellInstalment [] 80 ?_
  refine ldI 115 0 (hK.1 0 (by omega)) ?_
  refine brle a (W.f 0) (fun z => bad (by omega)) (fun z => ?_) ex rfl
  refine ldI 14 1 (hR.2 1 (by omega)) ?_
  refine brlt a (ru 1) (fun z2 => ?_) (fun z2 => bad (by omega)) ex rfl
  rw [if_neg (by omega)] at hq1 hq
  have bad2 : ¬ (0 ≤ b ∧ b ≤ 9999) → Q (some (.int (jI (-2)))) σ := by
    intro q
    rw [if_pos q] at hq1
    exact hq1 (by decide)
  refine brlt b 0 (fun z3 => bad2 (by omega)) (fun z3 => ?_) ey
  refine brle b 9999 (fun z4 => ?_) (fun z4 => bad2 (by omega)) ey
  rw [if_neg (by omega)] at hq1 hq
  have hta : ((a.toNat : Nat) : Int) = a := Int.toNat_of_nonneg (by omega)
  have ha := t1 a.toNat
  refine ldI 115 (12 + a.toNat) (hK.am a.toNat (by omega)) ?_ (hi := by rw [ex, jlit, jadd]; congr 1; push_cast; omega)
  refine breq (W.am a.toNat) b (fun z5 => ?_) (fun z5 => ?_) rfl ey
  · rw [if_pos z5] at hq1
    exact hq1 (by decide)
  · rw [if_neg z5] at hq
    refine stI 115 (12 + a.toNat) ?_ (hi := by rw [ex, jlit, jadd]; congr 1; push_cast; omega)
    exact hq rfl _ (fun c h1 h2 => by rw [uI_n h2, uI_n h1]) rfl (by rw [uI_at]; exact ex) ((hK.putA a.toNat b (by omega) (by omega) ey).fr (uI_n (by decide)))
end KS
