-- spread: the class
section KSp
variable {l : Launch} {G : GT} {d : Nat} {σ : Mm} {Q : Po} {ru : Nat → Int} {W : Wk}
theorem k_spread {y : Int32} {M : Nat} (w : Int) (hM : M = 163840) (hK : KQ σ ru W) (rw' : R31 w) (hq : ∀ τ, QK σ τ → CI τ ru → Q (some (.int (jI (aSpread ru W M w)))) τ) (ey : y = jI w := by first | rfl | assumption | (simp only [jlit, jneg, jadd, jsub, jmul]; done) | (simp only [jlit, jneg, jadd, jsub, jmul]; congr 1 <;> omega) | (congr 1 <;> omega)) : MW l G (d + 52) mX11_spread [.ref 0, .int y] σ Q := by
  have hr := hK.2.1.1.1
  obtain ⟨_, _, _, _, _, z6, _, _⟩ := hK.r
  have yw : y.toInt = w := by rw [ey]; exact jI_T rw'
  unfold aSpread at hq
  refine vX11_spread [] 60 ?_
  refine k_over hK ?_
  refine brz _ (fun q => ?_) (fun q => ?_)
  · have h6 : W.f 6 = 0 := by omega
    refine brlt w 0 (fun q1 => ?_) (fun q1 => ?_) (hx := ey) (hy := rfl)
    · rw [if_pos (Or.inr (by omega))] at hq
      exact hq σ QK.rf hK.2.1
    · refine brle w 4 (fun q3 => ?_) (fun q3 => ?_) (hx := ey) (hy := rfl)
      · rw [if_neg (by omega)] at hq
        refine k_go (M := M) true hM hK h6 ⟨0, by omega, rfl⟩ rfl (fun τ p F C hA => ?_)
        have hq := hq τ F C
        have ag := agg_all hr hK.2.2 h6 (btI 0) p
        obtain ⟨_, ⟨a3, a4, a5, a7⟩, a6, _, _, _⟩ := hA
        rw [ag.1] at a3
        rw [ag.2.1] at a4
        rw [ag.2.2.1] at a5
        rw [ag.2.2.2.1] at a7
        rw [cntB_same M (fun v _ => ag.2.2.2.2 v)] at a6
        refine ⟨⟨fun e => ?_, fun e => ?_, fun e => ?_, fun e => ?_, trivial⟩, fun e => ?_⟩
        · rw [if_pos (by omega), ← a3] at hq
          exact hq
        · rw [if_neg (by omega), if_pos (by omega), ← a4] at hq
          exact hq
        · rw [if_neg (by omega), if_neg (by omega), if_pos (by omega), ← a5] at hq
          exact hq
        · rw [if_neg (by omega), if_neg (by omega), if_neg (by omega), if_pos (by omega), ← a6] at hq
          exact hq
        · have e4 : w ≠ 0 ∧ w ≠ 1 ∧ w ≠ 2 ∧ w ≠ 3 := by
            rw [yw] at e
            refine ⟨?_, ?_, ?_, ?_⟩ <;> intro z <;> rw [z] at e <;> revert e <;> decide
          rw [if_neg e4.1, if_neg e4.2.1, if_neg e4.2.2.1, if_neg e4.2.2.2, ← a7] at hq
          exact hq
      · rw [if_pos (Or.inr (by omega))] at hq
        exact hq σ QK.rf hK.2.1
  · rw [if_pos (Or.inl q)] at hq
    exact hq σ QK.rf hK.2.1
end KSp
