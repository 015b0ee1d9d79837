-- bounds stay behind any act
theorem WB_deed {ru : Nat → Int} {W : Wk} (hr : RB ru) (hB : WB ru W) (h6 : W.f 6 = 0) (dd : Int) (hd : dd = 0 ∨ (ru 9 ≤ (W.t : Int) ∧ (W.t : Int) + ru 10 < ru 1) ∧ (dd = 1 ∨ dd = 2 ∧ 0 < (W.r : Int))) : WB ru (wDeed ru W dd).2.2.2 := by
  have hB' := hB
  obtain ⟨b1, bc, b3, b4, b6, b7, b8, t1, t2, t3⟩ := hB'
  have ht : ((W.t : Nat) : Int) = W.f 0 := Int.toNat_of_nonneg (by omega)
  have hr3 : ((W.r : Nat) : Int) = W.f 3 := Int.toNat_of_nonneg b3.1
  unfold wDeed
  by_cases q : W.f 4 ≠ 0 ∨ dd = 0
  · rw [if_pos q]; exact hB
  · rw [if_neg q]
    exact WB_give hr hB h6 (by omega) dd (by omega) (by omega)
theorem WB_out {ru : Nat → Int} {W : Wk} (hr : RB ru) (hB : WB ru W) (k a b c : Int) (hk : 0 ≤ k ∧ k ≤ 9) : WB ru (wOut ru W k a b c).2.2.2 := by
  have hB' := hB
  obtain ⟨b1, bc, b3, b4, b6, b7, b8, t1, t2, t3⟩ := hB'
  unfold wOut
  by_cases hy : wWhy ru W k a b c ≠ -1
  · rw [if_pos hy]; exact hB
  · rw [if_neg hy]
    have hy : wWhy ru W k a b c = -1 := by omega
    unfold wWhy at hy
    have h6 : W.f 6 = 0 := by
      rcases b6 with q | q
      · exact q
      · rw [if_pos q] at hy; omega
    rw [if_neg (by omega)] at hy
    unfold wDone
    by_cases k0 : k = 0 ∨ k = 1
    · rw [if_pos k0]
      exact WB_pass hr hB h6 (1 - k) (by omega)
    · rw [if_neg k0]
      by_cases k2 : k = 2 ∨ k = 3
      · rw [if_pos k2] at hy ⊢
        have h4 : W.f 4 = 0 := by
          by_cases q : W.f 4 ≠ 0
          · rw [if_pos q] at hy; omega
          · omega
        rw [if_neg (by omega)] at hy
        have hm : (ru 9 ≤ W.f 0 ∧ W.f 0 + ru 10 < ru 1) ∧ (k = 2 ∨ 0 < W.f 3) := by
          by_cases q : (ru 9 ≤ W.f 0 ∧ W.f 0 + ru 10 < ru 1) ∧ (k = 2 ∨ 0 < W.f 3)
          · exact q
          · rw [if_neg q] at hy; omega
        exact WB_give hr hB h6 h4 (k - 1) (by omega) hm.1
      · rw [if_neg k2] at hy ⊢
        by_cases k4 : k = 4
        · rw [if_pos k4]
          unfold WB
          simp (decide := true) only [put_f, put_am, put_ra, put_de, if_true, if_false]
          refine ⟨by first | trivial | omega | simp | (simp; omega), bc, b3, by first | trivial | omega | simp | (simp; omega), by first | trivial | omega | simp | (simp; omega), by first | trivial | omega | simp | (simp; omega), by first | trivial | omega | simp | (simp; omega), t1, t2, t3⟩
        · rw [if_neg k4] at hy ⊢
          by_cases k5 : k = 5
          · rw [if_pos k5] at hy ⊢
            rw [if_neg (by
              intro q
              rw [if_pos q] at hy; omega)] at hy
            have hb : 0 ≤ b ∧ b ≤ 9999 := by
              by_cases q : 0 ≤ b ∧ b ≤ 9999
              · exact q
              · rw [if_pos q] at hy; omega
            refine ⟨b1, bc, b3, b4, b6, b7, b8, fun j => ?_, t2, t3⟩
            show 0 ≤ (if j = a.toNat then b else W.am j) ∧ (if j = a.toNat then b else W.am j) ≤ 9999
            split
            · exact hb
            · exact t1 j
          · rw [if_neg k5] at hy ⊢
            by_cases k6 : k = 6
            · rw [if_pos k6] at hy ⊢
              rw [if_neg (by
                intro q
                rw [if_pos q] at hy; omega)] at hy
              have hc : 0 ≤ c ∧ c ≤ 999 := by
                by_cases q : 0 ≤ c ∧ c ≤ 999
                · exact q
                · rw [if_pos q] at hy; omega
              refine ⟨b1, bc, b3, b4, b6, b7, b8, t1, fun i j => ?_, t3⟩
              show 0 ≤ (if i = a.toNat ∧ j = b.toNat then c else W.ra i j) ∧ (if i = a.toNat ∧ j = b.toNat then c else W.ra i j) ≤ 999
              split
              · exact hc
              · exact t2 i j
            · rw [if_neg k6]
              by_cases k7 : k = 7
              · rw [if_pos k7]
                exact WB_deed hr hB h6 _ zbd_in
              · rw [if_neg k7]
                by_cases k8 : k = 8
                · rw [if_pos k8]
                  refine ⟨b1, bc, b3, b4, b6, b7, b8, t1, t2, fun i j => ?_⟩
                  show 0 ≤ (if wC ru W i j then wBest ru W i j else W.de i j) ∧ (if wC ru W i j then wBest ru W i j else W.de i j) ≤ 2
                  split
                  · exact wBest_in ru W i j
                  · exact t3 i j
                · rw [if_neg k8]
                  exact WB_deed hr hB h6 _ (zpd_in (t3 _ _))
