-- bounds stay
theorem put_f (W : Wk) (k : Nat) (z : Int) (j : Nat) : (W.put k z).f j = if j = k then z else W.f j := rfl
theorem put_am (W : Wk) (k : Nat) (z : Int) : (W.put k z).am = W.am := rfl
theorem put_ra (W : Wk) (k : Nat) (z : Int) : (W.put k z).ra = W.ra := rfl
theorem put_de (W : Wk) (k : Nat) (z : Int) : (W.put k z).de = W.de := rfl
/-- tables in their bounds -/
def WT (W : Wk) : Prop := (∀ j, 0 ≤ W.am j ∧ W.am j ≤ 9999) ∧ (∀ t h, 0 ≤ W.ra t h ∧ W.ra t h ≤ 999) ∧ (∀ t h, 0 ≤ W.de t h ∧ W.de t h ≤ 2)
theorem WB_run {ru : Nat → Int} {W : Wk} (hr : RB ru) (h1 : 0 ≤ W.f 1 ∧ W.f 1 ≤ W.f 0 ∧ W.f 0 < ru 1) (h2 : 0 ≤ W.f 2 ∧ W.f 2 ≤ 999) (h3 : 0 ≤ W.f 3 ∧ W.f 3 ≤ 2) (h4 : W.f 4 = 1 ∨ W.f 4 = 2 ∧ 1 ≤ W.f 3) (h6 : W.f 6 = 0) (hT : WT W) : WB ru (wRun ru W) := by
  obtain ⟨t1, t2, t3⟩ := hT
  unfold wRun
  by_cases q : W.f 4 = 1
  · rw [if_pos q]
    unfold WB
    simp (decide := true) only [put_f, put_am, put_ra, put_de, if_true, if_false]
    refine ⟨by first | trivial | omega | simp | (simp; omega), h2, h3, by first | trivial | omega | simp | (simp; omega), by first | trivial | omega | simp | (simp; omega), by first | trivial | omega | simp | (simp; omega), by first | trivial | omega | simp | (simp; omega), t1, t2, t3⟩
  · rw [if_neg q]
    have hz := zcp_in (ru := ru) (ra := W.ra) (t := W.t) (h := W.h) hr (t2 W.t W.h).1
    unfold WB
    simp (decide := true) only [put_f, put_am, put_ra, put_de, if_true, if_false]
    refine ⟨by first | trivial | omega | simp | (simp; omega), hz, by first | trivial | omega | simp | (simp; omega), by first | trivial | omega | simp | (simp; omega), by first | trivial | omega | simp | (simp; omega), by first | trivial | omega | simp | (simp; omega), by first | trivial | omega | simp | (simp; omega), t1, t2, t3⟩
theorem WB_give {ru : Nat → Int} {W : Wk} (hr : RB ru) (hB : WB ru W) (h6 : W.f 6 = 0) (h4 : W.f 4 = 0) (ki : Int) (hk : ki = 1 ∨ ki = 2 ∧ 1 ≤ W.f 3) (hm : ru 9 ≤ W.f 0 ∧ W.f 0 + ru 10 < ru 1) : WB ru (wGive ru W ki) := by
  obtain ⟨b1, bc, b3, b4, b6, b7, b8, t1, t2, t3⟩ := hB
  have hr' := hr
  unfold RB at hr'
  have := b7 h6
  unfold wGive
  by_cases q : ru 10 = 0
  · rw [if_pos q]
    refine WB_run hr ?_ ?_ ?_ ?_ ?_ ⟨t1, t2, t3⟩
    all_goals simp (decide := true) only [put_f, put_am, put_ra, put_de, if_true, if_false]
    all_goals first | trivial | omega | simp | (simp; omega)
  · rw [if_neg q]
    unfold WB
    simp (decide := true) only [put_f, put_am, put_ra, put_de, if_true, if_false]
    refine ⟨by first | trivial | omega | simp | (simp; omega), bc, b3, by first | trivial | omega | simp | (simp; omega), by first | trivial | omega | simp | (simp; omega), by first | trivial | omega | simp | (simp; omega), by first | trivial | omega | simp | (simp; omega), t1, t2, t3⟩
theorem WB_pass {ru : Nat → Int} {W : Wk} (hr : RB ru) (hB : WB ru W) (h6 : W.f 6 = 0) (up : Int) (hu : up = 0 ∨ up = 1) : WB ru (wPass ru W up) := by
  obtain ⟨b1, bc, b3, b4, b6, b7, b8, t1, t2, t3⟩ := hB
  have hr' := hr
  unfold RB at hr'
  have h7 := b7 h6
  have hlast : ∀ V : Wk, V.f 0 = W.f 0 + 1 → (V.f 0 < ru 1 → WB ru V) → (V.f 0 = ru 1 → WB ru (V.put 6 1)) → WB ru (if W.f 0 + 1 = ru 1 then V.put 6 1 else V) := by
    intro V e g1 g2
    by_cases z : W.f 0 + 1 = ru 1
    · rw [if_pos z]; exact g2 (by omega)
    · rw [if_neg z]; exact g1 (by omega)
  unfold wPass
  by_cases q : W.f 4 = 0
  · have e : wPass2 ru (wPass1 ru W up) = wPass1 ru W up := if_pos q
    rw [e]
    refine hlast _ rfl (fun z => ?_) (fun z => ?_)
    all_goals unfold wPass1 at z ⊢
    all_goals unfold WB
    all_goals simp (decide := true) only [put_f, put_am, put_ra, put_de, if_true, if_false] at z ⊢
    · refine ⟨by first | trivial | omega | simp | (simp; omega), bc, b3, by first | trivial | omega | simp | (simp; omega), by first | trivial | omega | simp | (simp; omega), by first | trivial | omega | simp | (simp; omega), by first | trivial | omega | simp | (simp; omega), t1, t2, t3⟩
    · refine ⟨by first | trivial | omega | simp | (simp; omega), bc, b3, by first | trivial | omega | simp | (simp; omega), by first | trivial | omega | simp | (simp; omega), by first | trivial | omega | simp | (simp; omega), by first | trivial | omega | simp | (simp; omega), t1, t2, t3⟩
  · have h8 := b8 q
    by_cases q5 : W.f 5 - 1 = 0
    · have e : wPass2 ru (wPass1 ru W up) = wRun ru ((wPass1 ru W up).put 5 (W.f 5 - 1)) := (if_neg q).trans (if_pos q5)
      rw [e, if_neg (by omega)]
      refine WB_run hr ?_ ?_ ?_ ?_ ?_ ⟨t1, t2, t3⟩
      all_goals unfold wPass1
      all_goals simp (decide := true) only [put_f, put_am, put_ra, put_de, if_true, if_false]
      all_goals first | trivial | omega | simp | (simp; omega)
    · have e : wPass2 ru (wPass1 ru W up) = (wPass1 ru W up).put 5 (W.f 5 - 1) := (if_neg q).trans (if_neg q5)
      rw [e, if_neg (by omega)]
      unfold wPass1 WB
      simp (decide := true) only [put_f, put_am, put_ra, put_de, if_true, if_false]
      refine ⟨by first | trivial | omega | simp | (simp; omega), bc, b3, by first | trivial | omega | simp | (simp; omega), by first | trivial | omega | simp | (simp; omega), by first | trivial | omega | simp | (simp; omega), by first | trivial | omega | simp | (simp; omega), t1, t2, t3⟩
