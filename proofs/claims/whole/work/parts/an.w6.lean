-- ways: their ends, what is paid at most
def lvN (ru : Nat → Int) (all : Bool) (b : Nat → Int) : Nat → Nat → Wk → List Wk
  | 0, _, V => [V]
  | n + 1, k, V => if V.f 6 = 0 then (if all = true then lvN ru all b n (k + 1) (wkA ru 3 (wPass ru V 0)) ++ lvN ru all b n (k + 1) (wkA ru 3 (wPass ru V 1)) else lvN ru all b n (k + 1) (wkA ru 3 (wPass ru V (b k)))) else [V]
def PB (ru : Nat → Int) (W U : Wk) : Prop := 0 ≤ U.f 7 ∧ U.f 7 + (if U.f 6 = 0 then zl ru W.am U.t else 0) ≤ 9999 + 9990 * (U.f 0 - W.f 0) + 10988 * U.f 11 + (if U.f 6 = 0 then 0 else 9990)
theorem prem_in {ru am : Nat → Int} (hr : RB ru) (ha : ∀ j, 0 ≤ am j) (t : Nat) : 0 ≤ zpr ru am t - zl ru am t ∧ zpr ru am t - zl ru am t ≤ 9989 := by
  have h1 := zl_in hr ha t
  unfold RB at hr
  have h8 : 0 ≤ (t : Int) * ru 8 := Int.mul_nonneg (by omega) (by omega)
  have h2 := mul_le_c h1.1 h1.2 (b := max 0 (ru 7 - t * ru 8)) (B := 999) (by omega) (by omega)
  unfold zpr
  omega
theorem zi_in2 {ru am : Nat → Int} (hr : RB ru) (ha : ∀ j, 0 ≤ am j) {cp : Int} (hc : 0 ≤ cp ∧ cp ≤ 999) (t : Nat) : 0 ≤ zi ru am cp t ∧ zi ru am cp t ≤ 9989 := by
  have h1 := zl_in hr ha (t - 1)
  have h2 := mul_le_c h1.1 h1.2 hc.1 hc.2
  unfold zi
  omega
theorem zl_zp (ru am : Nat → Int) (t : Nat) : zl ru am (t + 1) + zp ru am (t + 1) = zl ru am t := by
  show zl ru am t - (if (t : Int) + 1 = ru 1 then zl ru am t else min (zl ru am t) (am (t + 1))) + (if (t : Int) + 1 = ru 1 then zl ru am t else min (zl ru am t) (am (t + 1))) = zl ru am t
  omega
/-- a way's state -/
def US (ru : Nat → Int) (W U : Wk) : Prop := WB ru U ∧ U.2 = W.2 ∧ U.f 11 + U.f 3 = W.f 3 ∧ PB ru W U ∧ W.f 0 ≤ U.f 0 ∧ 0 ≤ U.f 11
section PWy
variable {ru : Nat → Int} {W : Wk}
theorem PB_run (hr : RB ru) (ha : ∀ j, 0 ≤ W.am j) {V : Wk} (h2 : V.2 = W.2) (h6 : V.f 6 = 0) (h : PB ru W V) : PB ru W (wRun ru V) := by
  have ea : V.am = W.am := by unfold Wk.am; rw [h2]
  have hl := zl_in hr ha V.t
  have hp := prem_in hr ha V.t
  have hr' := hr
  unfold RB at hr'
  unfold PB at h ⊢
  rw [if_pos h6, if_pos h6] at h
  by_cases q : V.f 4 = 1
  · have z := wRun_1 (ru := ru) q
    rw [z.1, z.2.1, z.2.2.2.1, z.2.2.2.2.1, ea, if_neg (by decide), if_neg (by decide)]
    omega
  · have z := wRun_0 (ru := ru) q
    have et : (wRun ru V).t = V.t := by unfold Wk.t; rw [z.2.1]
    rw [z.1, z.2.1, z.2.2.2.1, z.2.2.2.2.1, ea, et, if_pos h6, if_pos h6]
    omega
theorem PB_give (hr : RB ru) (ha : ∀ j, 0 ≤ W.am j) {V : Wk} (h2 : V.2 = W.2) (h6 : V.f 6 = 0) (h : PB ru W V) (ki : Int) : PB ru W (wGive ru V ki) := by
  unfold wGive
  split
  · exact PB_run hr ha (V := (V.put 4 ki).put 5 (ru 10)) h2 h6 h
  · exact h
theorem PB_pass (hr : RB ru) (ha : ∀ j, 0 ≤ W.am j) {V : Wk} (hB : WB ru V) (h2 : V.2 = W.2) (h6 : V.f 6 = 0) (h : PB ru W V) (up : Int) : PB ru W (wPass ru V up) := by
  have ea : V.am = W.am := by unfold Wk.am; rw [h2]
  have hv := V_t hB
  have hT := hB.2.2.2.2.2.1 h6
  have h1 : PB ru W (wPass1 ru V up) := by
    have hi := zi_in2 hr ha hB.2.1 (V.t + 1)
    have hp := zp_in hr ha (V.t + 1)
    have hz := zl_zp ru W.am V.t
    have et : (wPass1 ru V up).t = V.t + 1 := by
      show (V.f 0 + 1).toNat = V.t + 1
      omega
    unfold PB at h ⊢
    rw [if_pos h6, if_pos h6] at h
    rw [et]
    show 0 ≤ V.f 7 + zd ru V.am (V.f 2) (V.t + 1) ∧ V.f 7 + zd ru V.am (V.f 2) (V.t + 1) + (if V.f 6 = 0 then zl ru W.am (V.t + 1) else 0) ≤ 9999 + 9990 * (V.f 0 + 1 - W.f 0) + 10988 * V.f 11 + (if V.f 6 = 0 then 0 else 9990)
    rw [if_pos h6, if_pos h6, ea]
    unfold zd
    omega
  have h2' : PB ru W (wPass2 ru (wPass1 ru V up)) := by
    unfold wPass2
    split
    · exact h1
    · split
      · exact PB_run hr ha (V := (wPass1 ru V up).put 5 ((wPass1 ru V up).f 5 - 1)) h2 h6 h1
      · exact h1
  unfold wPass
  split
  · unfold PB at h2' ⊢
    have hl := zl_in hr ha (wPass2 ru (wPass1 ru V up)).t
    show 0 ≤ (wPass2 ru (wPass1 ru V up)).f 7 ∧ (wPass2 ru (wPass1 ru V up)).f 7 + (if (1 : Int) = 0 then _ else 0) ≤ 9999 + 9990 * ((wPass2 ru (wPass1 ru V up)).f 0 - W.f 0) + 10988 * (wPass2 ru (wPass1 ru V up)).f 11 + (if (1 : Int) = 0 then 0 else 9990)
    rw [if_neg (by decide), if_neg (by decide)]
    split at h2' <;> omega
  · exact h2'
theorem US_pass (hr : RB ru) (hW : WB ru W) {V : Wk} (h : US ru W V) (h6 : V.f 6 = 0) (up : Int) (hu : up = 0 ∨ up = 1) : US ru W (wPass ru V up) := by
  obtain ⟨a1, a2, a3, a4, a5, a6⟩ := h
  have ha : ∀ j, 0 ≤ W.am j := fun j => (hW.2.2.2.2.2.2.2.1 j).1
  have pv := wPass_v ru V up
  refine ⟨WB_pass hr a1 h6 up hu, (wPass_2 ru V up).trans a2, ?_, PB_pass hr ha a1 a2 h6 a4 up, by omega, ?_⟩ <;> (rcases pv.2.2 with q | q <;> omega)
theorem US_give (hr : RB ru) (hW : WB ru W) {V : Wk} (h : US ru W V) (h6 : V.f 6 = 0) (h4 : V.f 4 = 0) (hd : wBest ru V V.t V.h ≠ 0) : US ru W (wGive ru V (wBest ru V V.t V.h)) := by
  obtain ⟨a1, a2, a3, a4, a5, a6⟩ := h
  have ha : ∀ j, 0 ≤ W.am j := fun j => (hW.2.2.2.2.2.2.2.1 j).1
  have g := wGive_11 ru V (wBest ru V V.t V.h)
  have hB := WB_best hr a1 h6 h4 hd
  refine ⟨hB, (wGive_2 ru V _).trans a2, by omega, PB_give hr ha a2 h6 a4 _, by omega, ?_⟩
  by_cases q : ru 10 = 0
  · by_cases k : wBest ru V V.t V.h = 1
    · unfold wGive
      rw [if_pos q]
      have z := wRun_1 (ru := ru) (V := (V.put 4 (wBest ru V V.t V.h)).put 5 (ru 10)) (show wBest ru V V.t V.h = 1 from k)
      rw [z.2.2.2.2.1]
      exact a6
    · unfold wGive
      rw [if_pos q]
      have z := wRun_0 (ru := ru) (V := (V.put 4 (wBest ru V V.t V.h)).put 5 (ru 10)) (show wBest ru V V.t V.h ≠ 1 from k)
      rw [z.2.2.2.2.1]
      show 0 ≤ V.f 11 + 1
      omega
  · rw [(wGive_n (ru := ru) (V := V) (ki := wBest ru V V.t V.h) q).2.2.2.2.2.2.2.2]
    exact a6
theorem US_act (hr : RB ru) (hW : WB ru W) : ∀ (n : Nat) (V : Wk), US ru W V → US ru W (wkA ru n V)
  | 0, V, h => h
  | n + 1, V, h => by
    show US ru W (if V.f 6 = 0 ∧ V.f 4 = 0 ∧ wBest ru V V.t V.h ≠ 0 then wkA ru n (wGive ru V (wBest ru V V.t V.h)) else V)
    split
    · next q => exact US_act hr hW n _ (US_give hr hW h q.1 q.2.1 q.2.2)
    · exact h
theorem US_0 (hr : RB ru) (hW : WB ru W) (h6 : W.f 6 = 0) : US ru W (wk0 W) := by
  have ha : ∀ j, 0 ≤ W.am j := fun j => (hW.2.2.2.2.2.2.2.1 j).1
  have hl := zl_in hr ha W.t
  refine ⟨wk0_WB hW, rfl, by show (0 : Int) + W.f 3 = W.f 3; omega, ?_, Int.le_refl _, by show (0 : Int) ≤ 0; omega⟩
  unfold PB
  show (0 : Int) ≤ 0 ∧ 0 + (if W.f 6 = 0 then zl ru W.am W.t else 0) ≤ 9999 + 9990 * (W.f 0 - W.f 0) + 10988 * 0 + (if W.f 6 = 0 then 0 else 9990)
  rw [if_pos h6, if_pos h6]
  omega
theorem US_7 (hr : RB ru) (hW : WB ru W) {V : Wk} (h : US ru W V) : 0 ≤ V.f 7 ∧ V.f 7 < 163840 := by
  obtain ⟨a1, a2, a3, a4, a5, a6⟩ := h
  have ha : ∀ j, 0 ≤ W.am j := fun j => (hW.2.2.2.2.2.2.2.1 j).1
  have hl := zl_in hr ha V.t
  unfold RB at hr
  have b0 := a1.1
  have b3 := a1.2.2.1
  have w0 := hW.1
  have w3 := hW.2.2.1
  unfold PB at a4
  split at a4 <;> omega
theorem wkA_fuel : ∀ (n : Nat) (U : Wk), RB ru → WB ru U → (U.f 6 = 0 ∧ U.f 4 = 0 → U.r < n) → wkA ru n U = wkA ru (n + 1) U
  | 0, U, _, _, h => by
    rw [wkA_stop 1 (fun q => by have := h q; omega)]
    rfl
  | n + 1, U, hr, hB, h => by
    show (if U.f 6 = 0 ∧ U.f 4 = 0 ∧ wBest ru U U.t U.h ≠ 0 then wkA ru n (wGive ru U (wBest ru U U.t U.h)) else U) = (if U.f 6 = 0 ∧ U.f 4 = 0 ∧ wBest ru U U.t U.h ≠ 0 then wkA ru (n + 1) (wGive ru U (wBest ru U U.t U.h)) else U)
    by_cases q : U.f 6 = 0 ∧ U.f 4 = 0 ∧ wBest ru U U.t U.h ≠ 0
    · rw [if_pos q, if_pos q]
      have hB' := WB_best hr hB q.1 q.2.1 q.2.2
      have hv := V_t hB
      have hv' := V_t hB'
      refine wkA_fuel n _ hr hB' (fun k => ?_)
      have hUn := h ⟨q.1, q.2.1⟩
      by_cases q2 : ru 10 = 0
      · by_cases d2 : wBest ru U U.t U.h = 1
        · exfalso
          have : (wGive ru U (wBest ru U U.t U.h)).f 6 = 1 := by
            unfold wGive
            rw [if_pos q2]
            exact (wRun_1 (ru := ru) (V := (U.put 4 (wBest ru U U.t U.h)).put 5 (ru 10)) (show wBest ru U U.t U.h = 1 from d2)).1
          omega
        · have : (wGive ru U (wBest ru U U.t U.h)).f 3 = U.f 3 - 1 := by
            unfold wGive
            rw [if_pos q2]
            exact (wRun_0 (ru := ru) (V := (U.put 4 (wBest ru U U.t U.h)).put 5 (ru 10)) (show wBest ru U U.t U.h ≠ 1 from d2)).2.2.2.2.2.2.1
          omega
      · have := (wGive_n (ru := ru) (V := U) (ki := wBest ru U U.t U.h) q2).2.1
        have := q.2.2
        omega
    · rw [if_neg q, if_neg q]
end PWy
