-- the document's numbers
theorem jlit (n : Nat) : (@OfNat.ofNat Int32 n _) = jI (@OfNat.ofNat Int n _) := (jn n).symm
theorem jLlit (n : Nat) : (@OfNat.ofNat Int64 n _) = jL (@OfNat.ofNat Int n _) := by
  show Int64.ofNat n = Int64.ofInt (n : Int)
  exact Int64.ofInt_eq_ofNat.symm
theorem vin {i : Int32} {n : Nat} (h : (!decide (i < 0) && decide (i.toNatClampNeg < n)) = true) : vp_in i n := by
  simp only [Bool.and_eq_true, Bool.not_eq_true', decide_eq_false_iff_not, decide_eq_true_eq] at h
  intro q
  rcases q with q | q
  · exact h.1 q
  · omega
def bnd (v : Int) : Int := if v < 0 then 0 else if 999 < v then 999 else v
theorem bnd_in (v : Int) : 0 ≤ bnd v ∧ bnd v ≤ 999 := by unfold bnd; split <;> (try split) <;> omega
theorem bnd_id {v : Int} (h : 0 ≤ v) (h2 : v ≤ 999) : bnd v = v := by unfold bnd; split <;> (try split) <;> omega
/-- the rules' bounds -/
def RB (ru : Nat → Int) : Prop := (1 ≤ ru 0 ∧ ru 0 ≤ 9999) ∧ (1 ≤ ru 1 ∧ ru 1 ≤ 12) ∧ (0 ≤ ru 2 ∧ ru 2 ≤ 999) ∧ (0 ≤ ru 3 ∧ ru 3 ≤ 999) ∧ (0 ≤ ru 4 ∧ ru 4 ≤ 99) ∧ (0 ≤ ru 5 ∧ ru 5 ≤ 99) ∧ (0 ≤ ru 6 ∧ ru 6 ≤ 100) ∧ (0 ≤ ru 7 ∧ ru 7 ≤ 999) ∧ (0 ≤ ru 8 ∧ ru 8 ≤ 99) ∧ (0 ≤ ru 9 ∧ ru 9 ≤ 12) ∧ (0 ≤ ru 10 ∧ ru 10 ≤ 2) ∧ (0 ≤ ru 11 ∧ ru 11 ≤ 2) ∧ (0 ≤ ru 12 ∧ ru 12 ≤ 99) ∧ (0 ≤ ru 13 ∧ ru 13 ≤ 999)
/-- a rate: as told (-1: not told), shifted -/
def zra (ru : Nat → Int) (tr s : Int) (t h : Nat) : Int := bnd ((if tr = -1 then bnd (ru 3 + h * ru 4 - ((t : Int) - h) * ru 5) else tr) + s)
/-- LEFT -/
def zl (ru am : Nat → Int) : Nat → Int
  | 0 => ru 0
  | t + 1 => zl ru am t - (if (t : Int) + 1 = ru 1 then zl ru am t else min (zl ru am t) (am (t + 1)))
/-- INSTALMENT -/
def zp (ru am : Nat → Int) : Nat → Int
  | 0 => 0
  | t + 1 => if (t : Int) + 1 = ru 1 then zl ru am t else min (zl ru am t) (am (t + 1))
/-- PRICE -/
def zpr (ru am : Nat → Int) (t : Nat) : Int := zl ru am t + zl ru am t * max 0 (ru 7 - t * ru 8) / 1000
/-- INTEREST -/
def zi (ru am : Nat → Int) (cp : Int) (t : Nat) : Int := zl ru am (t - 1) * cp / 1000
/-- DUE -/
def zd (ru am : Nat → Int) (cp : Int) (t : Nat) : Int := zp ru am t + zi ru am cp t
/-- NEXT -/
def zn (ru : Nat → Int) (ra : Nat → Nat → Int) (t h : Nat) (a b : Int) : Int := (ru 6 * a + (100 - ru 6) * b) * 10 / (1000 + ra t h)
/-- what is X behind s years, brought back -/
def zb (ru am : Nat → Int) (ra : Nat → Nat → Int) (cp : Int) (X : Nat → Nat → Int) : Nat → Nat → Nat → Int
  | 0, t, h => X t h
  | s + 1, t, h => zn ru ra t h (zd ru am cp (t + 1) + zb ru am ra cp X s (t + 1) (h + 1)) (zd ru am cp (t + 1) + zb ru am ra cp X s (t + 1) h)
/-- CALLED may be -/
def zme (ru : Nat → Int) (t : Nat) : Prop := ru 9 ≤ t ∧ (t : Int) + ru 10 < ru 1
theorem zl_in {ru am : Nat → Int} (hr : RB ru) (ha : ∀ j, 0 ≤ am j) : ∀ t, 0 ≤ zl ru am t ∧ zl ru am t ≤ 9999
  | 0 => by unfold RB at hr; unfold zl; omega
  | t + 1 => by
    have := zl_in hr ha t
    have := ha (t + 1)
    unfold zl
    split <;> omega
theorem zp_in {ru am : Nat → Int} (hr : RB ru) (ha : ∀ j, 0 ≤ am j) : ∀ t, 0 ≤ zp ru am t ∧ zp ru am t ≤ 9999
  | 0 => by simp only [zp]; omega
  | t + 1 => by
    have := zl_in hr ha t
    have := ha (t + 1)
    simp only [zp]
    split <;> omega
theorem mul_le_c {a b A B : Int} (ha : 0 ≤ a) (hA : a ≤ A) (hb : 0 ≤ b) (hB : b ≤ B) : 0 ≤ a * b ∧ a * b ≤ A * B := ⟨Int.mul_nonneg ha hb, Int.mul_le_mul hA hB hb (by omega)⟩
theorem zpr_in {ru am : Nat → Int} (hr : RB ru) (ha : ∀ j, 0 ≤ am j) (t : Nat) : zl ru am t ≤ zpr ru am t ∧ zpr ru am t ≤ 20000 := by
  have h1 := zl_in hr ha t
  unfold RB at hr
  have h8 : 0 ≤ (t : Int) * ru 8 := Int.mul_nonneg (by omega) (by omega)
  have h2 := mul_le_c h1.1 h1.2 (b := max 0 (ru 7 - t * ru 8)) (B := 999) (by omega) (by omega)
  unfold zpr
  omega
theorem zi_in {ru am : Nat → Int} (hr : RB ru) (ha : ∀ j, 0 ≤ am j) {cp : Int} (h0 : 0 ≤ cp) (h9 : cp ≤ 999) (t : Nat) : 0 ≤ zi ru am cp t ∧ zi ru am cp t ≤ 9999 := by
  have h1 := zl_in hr ha (t - 1)
  have h2 := mul_le_c h1.1 h1.2 h0 h9
  unfold zi
  omega
theorem zd_in {ru am : Nat → Int} (hr : RB ru) (ha : ∀ j, 0 ≤ am j) {cp : Int} (h0 : 0 ≤ cp) (h9 : cp ≤ 999) (t : Nat) : 0 ≤ zd ru am cp t ∧ zd ru am cp t ≤ 19998 := by
  have h1 := zp_in hr ha t
  have h2 := zi_in hr ha h0 h9 t
  unfold zd
  omega
theorem zn_in {ru : Nat → Int} {ra : Nat → Nat → Int} (hr : RB ru) {t h : Nat} (hra : 0 ≤ ra t h) {a b B : Int} (ha : 0 ≤ a) (hA : a ≤ B) (hb : 0 ≤ b) (hB : b ≤ B) : 0 ≤ zn ru ra t h a b ∧ zn ru ra t h a b ≤ B ∧ 0 ≤ ru 6 * a ∧ 0 ≤ (100 - ru 6) * b ∧ ru 6 * a + (100 - ru 6) * b ≤ 100 * B := by
  unfold RB at hr
  have h1 : 0 ≤ ru 6 * a := Int.mul_nonneg (by omega) ha
  have h2 : 0 ≤ (100 - ru 6) * b := Int.mul_nonneg (by omega) hb
  have h3 : ru 6 * a ≤ ru 6 * B := Int.mul_le_mul_of_nonneg_left hA (by omega)
  have h4 : (100 - ru 6) * b ≤ (100 - ru 6) * B := Int.mul_le_mul_of_nonneg_left hB (by omega)
  have h5 : ru 6 * B + (100 - ru 6) * B = 100 * B := by rw [← Int.add_mul]; congr 1; omega
  have h6 : ru 6 * a + (100 - ru 6) * b ≤ 100 * B := by omega
  refine ⟨Int.ediv_nonneg (by omega) (by omega), ?_, h1, h2, h6⟩
  unfold zn
  have h7 : 1000 * B ≤ (1000 + ra t h) * B := Int.mul_le_mul_of_nonneg_right (by omega) (by omega)
  apply Int.le_of_lt_add_one
  apply Int.ediv_lt_of_lt_mul (by omega)
  have h8 : (B + 1) * (1000 + ra t h) = (1000 + ra t h) * B + (1000 + ra t h) := by rw [Int.add_mul, Int.one_mul, Int.mul_comm B]
  rw [h8]
  omega
