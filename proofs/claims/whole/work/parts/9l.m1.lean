-- what a node costs rises with the coupon
theorem zi_mono {ru am : Nat → Int} (hr : RB ru) (ha : ∀ j, 0 ≤ am j) {c c' : Int} (hc : c ≤ c') (t : Nat) : zi ru am c t ≤ zi ru am c' t := by
  unfold zi
  have h := zl_in hr ha (t - 1)
  exact Int.ediv_le_ediv (by omega) (Int.mul_le_mul_of_nonneg_left hc h.1)
theorem zd_mono {ru am : Nat → Int} (hr : RB ru) (ha : ∀ j, 0 ≤ am j) {c c' : Int} (hc : c ≤ c') (t : Nat) : zd ru am c t ≤ zd ru am c' t := by
  unfold zd
  have := zi_mono hr ha hc t
  omega
theorem zn_mono {ru : Nat → Int} {ra : Nat → Nat → Int} (hr : RB ru) {t h : Nat} (hra : 0 ≤ ra t h) {a a' b b' : Int} (h1 : a ≤ a') (h2 : b ≤ b') : zn ru ra t h a b ≤ zn ru ra t h a' b' := by
  unfold RB at hr
  unfold zn
  have e1 : ru 6 * a ≤ ru 6 * a' := Int.mul_le_mul_of_nonneg_left h1 (by omega)
  have e2 : (100 - ru 6) * b ≤ (100 - ru 6) * b' := Int.mul_le_mul_of_nonneg_left h2 (by omega)
  exact Int.ediv_le_ediv (by omega) (by omega)
theorem zb_mono {ru am : Nat → Int} {ra : Nat → Nat → Int} (hr : RB ru) (ha : ∀ j, 0 ≤ am j) (hra : ∀ t h, 0 ≤ ra t h) {c c' : Int} (hc : c ≤ c') (X : Nat → Nat → Int) : ∀ s t h, zb ru am ra c X s t h ≤ zb ru am ra c' X s t h
  | 0, t, h => Int.le_refl _
  | s + 1, t, h => by
    have h1 := zb_mono hr ha hra hc X s (t + 1) (h + 1)
    have h2 := zb_mono hr ha hra hc X s (t + 1) h
    have h3 := zd_mono hr ha hc (t + 1)
    show zn ru ra t h (zd ru am c (t + 1) + zb ru am ra c X s (t + 1) (h + 1)) (zd ru am c (t + 1) + zb ru am ra c X s (t + 1) h) ≤ zn ru ra t h (zd ru am c' (t + 1) + zb ru am ra c' X s (t + 1) (h + 1)) (zd ru am c' (t + 1) + zb ru am ra c' X s (t + 1) h)
    exact zn_mono hr (hra t h) (by omega) (by omega)
theorem zcd_mono {ru am : Nat → Int} {ra : Nat → Nat → Int} (hr : RB ru) (ha : ∀ j, 0 ≤ am j) (hra : ∀ t h, 0 ≤ ra t h) {c c' : Int} (hc : c ≤ c') {B B' N : Nat → Nat → Int} (dd : Int) (t h : Nat) (h1 : B (t + 1) (h + 1) ≤ B' (t + 1) (h + 1)) (h2 : B (t + 1) h ≤ B' (t + 1) h) : zcd ru am ra c B N dd t h ≤ zcd ru am ra c' B' N dd t h := by
  unfold zcd
  have h3 := zd_mono hr ha hc (t + 1)
  split
  · exact zn_mono hr (hra t h) (by omega) (by omega)
  · split
    · exact zb_mono hr ha hra hc _ _ t h
    · exact zb_mono hr ha hra hc _ _ t h
abbrev okD (ru : Nat → Int) (r : Int) (t : Nat) (dd : Int) : Prop := dd = 0 ∨ (ru 9 ≤ t ∧ (t : Int) + ru 10 < ru 1) ∧ (dd = 1 ∨ dd = 2 ∧ 0 < r)
theorem zbd_least {ru am : Nat → Int} {ra : Nat → Nat → Int} {cp : Int} {B N : Nat → Nat → Int} {r : Int} {t h : Nat} (dd : Int) (hd : okD ru r t dd) : zcd ru am ra cp B N (zbd ru am ra cp B N r t h) t h ≤ zcd ru am ra cp B N dd t h := by
  unfold zbd
  dsimp only
  unfold okD at hd
  by_cases m : ru 9 ≤ (t : Int) ∧ (t : Int) + ru 10 < ru 1
  · rw [if_pos m]
    by_cases q1 : zcd ru am ra cp B N 1 t h < zcd ru am ra cp B N 0 t h
    · rw [if_pos q1]
      by_cases q2 : 0 < r ∧ zcd ru am ra cp B N 2 t h < zcd ru am ra cp B N 1 t h
      · rw [if_pos q2]
        rcases hd with rfl | ⟨_, rfl | ⟨rfl, _⟩⟩ <;> omega
      · rw [if_neg q2]
        rcases hd with rfl | ⟨_, rfl | ⟨rfl, _⟩⟩ <;> omega
    · rw [if_neg q1]
      by_cases q2 : 0 < r ∧ zcd ru am ra cp B N 2 t h < zcd ru am ra cp B N 0 t h
      · rw [if_pos q2]
        rcases hd with rfl | ⟨_, rfl | ⟨rfl, _⟩⟩ <;> omega
      · rw [if_neg q2]
        rcases hd with rfl | ⟨_, rfl | ⟨rfl, _⟩⟩ <;> omega
  · rw [if_neg m]
    rcases hd with rfl | ⟨z, _⟩
    · exact Int.le_refl _
    · exact absurd z m
theorem zC_mono {ru am : Nat → Int} {ra : Nat → Nat → Int} (hr : RB ru) (ha : ∀ j, 0 ≤ am j) (hra : ∀ t h, 0 ≤ ra t h) {c c' : Int} (hc : c ≤ c') (r : Int) (N : Nat → Nat → Int) : ∀ (k t h : Nat), (t : Int) + k = ru 1 → zC ru am ra none r c N t h ≤ zC ru am ra none r c' N t h := by
  intro k
  induction k with
  | zero => intro t h ht; rw [zC_end (by omega), zC_end (by omega)]; exact Int.le_refl _
  | succ k ih =>
    intro t h ht
    rw [zC_step (by omega), zC_step (by omega)]
    show zcd ru am ra c (zC ru am ra none r c N) N (zbd ru am ra c (zC ru am ra none r c N) N r t h) t h ≤ zcd ru am ra c' (zC ru am ra none r c' N) N (zbd ru am ra c' (zC ru am ra none r c' N) N r t h) t h
    exact Int.le_trans (zbd_least (zbd ru am ra c' (zC ru am ra none r c' N) N r t h) zbd_in) (zcd_mono hr ha hra hc _ t h (ih (t + 1) (h + 1) (by omega)) (ih (t + 1) h (by omega)))
/-- the greatest below n that holds, or -1 -/
def gst (p : Int → Bool) : Nat → Int
  | 0 => -1
  | n + 1 => if p n then (n : Int) else gst p n
theorem gst_in (p : Int → Bool) : ∀ n, -1 ≤ gst p n ∧ gst p n < n
  | 0 => ⟨Int.le_refl _, by show (-1 : Int) < 0; omega⟩
  | n + 1 => by
    have := gst_in p n
    show -1 ≤ (if p n then (n : Int) else gst p n) ∧ (if p n then (n : Int) else gst p n) < ((n + 1 : Nat) : Int)
    split <;> omega
theorem gst_ok (p : Int → Bool) : ∀ n, gst p n ≠ -1 → p (gst p n) = true
  | 0, h => absurd rfl h
  | n + 1, h => by
    show p (if p n then (n : Int) else gst p n) = true
    have h : (if p n then (n : Int) else gst p n) ≠ -1 := h
    by_cases q : p n = true
    · rw [if_pos q]; exact q
    · rw [if_neg q] at h ⊢
      exact gst_ok p n h
theorem gst_no (p : Int → Bool) : ∀ n (c : Int), gst p n < c → c < n → p c = false
  | 0, c, h1, h2 => by
    have h1 : (-1 : Int) < c := h1
    have h2 : c < 0 := h2
    omega
  | n + 1, c, h1, h2 => by
    have h1 : (if p n then (n : Int) else gst p n) < c := h1
    by_cases q : p n = true
    · rw [if_pos q] at h1
      omega
    · rw [if_neg q] at h1
      by_cases z : c = n
      · rw [z]
        simpa using q
      · exact gst_no p n c h1 (by omega)
/-- by a coupon: no dearer than what is left -/
def fairP (ru : Nat → Int) (W : Wk) (c : Int) : Bool := decide (zC ru W.am W.ra none W.r c (zN ru W.am W.ra none W.r) W.t W.h ≤ zl ru W.am W.t)
def aFair (ru : Nat → Int) (W : Wk) : Int := if W.f 6 = 1 then -1 else gst (fairP ru W) 1000
