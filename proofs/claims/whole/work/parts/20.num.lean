-- whole numbers as ints and longs
def jI (z : Int) : Int32 := Int32.ofInt z
def jL (z : Int) : Int64 := Int64.ofInt z
abbrev R31 (z : Int) : Prop := -2147483648 ≤ z ∧ z < 2147483648
abbrev R63 (z : Int) : Prop := -9223372036854775808 ≤ z ∧ z < 9223372036854775808
theorem jI_T {z : Int} (h : R31 z) : (jI z).toInt = z := Int32.toInt_ofInt_of_le (by have := h.1; omega) (by have := h.2; omega)
theorem jI_of (x : Int32) : jI x.toInt = x := Int32.ofInt_toInt x
theorem jI_R (x : Int32) : R31 x.toInt := ⟨by have := Int32.le_toInt x; omega, by have := Int32.toInt_lt x; omega⟩
theorem jadd (a b : Int) : jI a + jI b = jI (a + b) := (Int32.ofInt_add a b).symm
theorem jsub (a b : Int) : jI a - jI b = jI (a - b) := (Int32.ofInt_sub a b).symm
theorem jmul (a b : Int) : jI a * jI b = jI (a * b) := (Int32.ofInt_mul a b).symm
theorem jneg (a : Int) : - jI a = jI (-a) := (Int32.ofInt_neg a).symm
theorem jlt {a b : Int} (ha : R31 a) (hb : R31 b) : jI a < jI b ↔ a < b := by rw [Int32.lt_iff_toInt_lt, jI_T ha, jI_T hb]
theorem jle {a b : Int} (ha : R31 a) (hb : R31 b) : jI a ≤ jI b ↔ a ≤ b := by rw [Int32.le_iff_toInt_le, jI_T ha, jI_T hb]
theorem jeq {a b : Int} (ha : R31 a) (hb : R31 b) : jI a = jI b ↔ a = b := by rw [← Int32.toInt_inj, jI_T ha, jI_T hb]
theorem jdiv {a b : Int} (ha : 0 ≤ a) (ha2 : a < 2147483648) (hb : 0 < b) (hb2 : b < 2147483648) : jI a / jI b = jI (a / b) := by
  apply Int32.toInt_inj.mp
  rw [Int32.toInt_div, jI_T ⟨by omega, ha2⟩, jI_T ⟨by omega, hb2⟩, Int.tdiv_eq_ediv_of_nonneg ha]
  have h0 : 0 ≤ a / b := Int.ediv_nonneg ha (by omega)
  have h1 : a / b ≤ a := Int.ediv_le_self b ha
  rw [jI_T ⟨by omega, by omega⟩]
  exact Int.bmod_eq_of_le (by omega) (by omega)
theorem jix {z : Int} (h : R31 z) : (jI z).toNatClampNeg = z.toNat := by
  show (jI z).toInt.toNat = _
  rw [jI_T h]
theorem jin {z : Int} {n : Nat} (h : R31 z) : vp_in (jI z) n ↔ 0 ≤ z ∧ z < n := by rw [vp_in_iff, jI_T h]
theorem jin_of {z : Int} {n : Nat} (h0 : 0 ≤ z) (h1 : z < n) (hn : n < 2147483648) : vp_in (jI z) n := (jin ⟨by omega, by omega⟩).mpr ⟨h0, h1⟩
theorem jn (n : Nat) : jI (n : Int) = nI n := by
  unfold jI nI
  exact Int32.ofInt_eq_ofNat
theorem jL_T {z : Int} (h : R63 z) : (jL z).toInt = z := Int64.toInt_ofInt_of_le (by have := h.1; omega) (by have := h.2; omega)
theorem jLadd (a b : Int) : jL a + jL b = jL (a + b) := (Int64.ofInt_add a b).symm
theorem jLsub (a b : Int) : jL a - jL b = jL (a - b) := (Int64.ofInt_sub a b).symm
theorem jLmul (a b : Int) : jL a * jL b = jL (a * b) := (Int64.ofInt_mul a b).symm
theorem jLlt {a b : Int} (ha : R63 a) (hb : R63 b) : jL a < jL b ↔ a < b := by rw [Int64.lt_iff_toInt_lt, jL_T ha, jL_T hb]
theorem jLle {a b : Int} (ha : R63 a) (hb : R63 b) : jL a ≤ jL b ↔ a ≤ b := by rw [Int64.le_iff_toInt_le, jL_T ha, jL_T hb]
theorem jLeq {a b : Int} (ha : R63 a) (hb : R63 b) : jL a = jL b ↔ a = b := by rw [← Int64.toInt_inj, jL_T ha, jL_T hb]
theorem jLdiv {a b : Int} (ha : 0 ≤ a) (ha2 : a < 9223372036854775808) (hb : 0 < b) (hb2 : b < 9223372036854775808) : jL a / jL b = jL (a / b) := by
  apply Int64.toInt_inj.mp
  rw [Int64.toInt_div, jL_T ⟨by omega, ha2⟩, jL_T ⟨by omega, hb2⟩, Int.tdiv_eq_ediv_of_nonneg ha]
  have h0 : 0 ≤ a / b := Int.ediv_nonneg ha (by omega)
  have h1 : a / b ≤ a := Int.ediv_le_self b ha
  rw [jL_T ⟨by omega, by omega⟩]
  exact Int.bmod_eq_of_le (by omega) (by omega)
theorem jI_L {z : Int} (h : R31 z) : (jI z).toInt64 = jL z := by
  apply Int64.toInt_inj.mp
  rw [Int32.toInt_toInt64, jI_T h, jL_T ⟨by have := h.1; omega, by have := h.2; omega⟩]
theorem toI_L (x : Int32) : x.toInt64 = jL x.toInt := by
  conv => lhs; rw [← jI_of x]
  exact jI_L (jI_R x)
theorem jL_I (z : Int) : (jL z).toInt32 = jI z := Int64.toInt32_ofInt
theorem jcmp_lt {a b : Int} (ha : R63 a) (hb : R63 b) : lg_cmp (jL a) (jL b) < 0 ↔ a < b := by
  unfold lg_cmp
  have e1 : (jL a > jL b) ↔ b < a := jLlt hb ha
  have e2 := jLeq ha hb
  by_cases h1 : b < a
  · rw [if_pos (e1.mpr h1)]
    exact ⟨fun q => absurd q (by decide), fun q => by omega⟩
  · rw [if_neg (fun q => h1 (e1.mp q))]
    by_cases h2 : a = b
    · rw [if_pos (e2.mpr h2)]
      exact ⟨fun q => absurd q (by decide), fun q => by omega⟩
    · rw [if_neg (fun q => h2 (e2.mp q))]
      exact ⟨fun _ => by omega, fun _ => by decide⟩
theorem jcmp_gt {a b : Int} (ha : R63 a) (hb : R63 b) : 0 < lg_cmp (jL a) (jL b) ↔ b < a := by
  unfold lg_cmp
  have e1 : (jL a > jL b) ↔ b < a := jLlt hb ha
  have e2 := jLeq ha hb
  by_cases h1 : b < a
  · rw [if_pos (e1.mpr h1)]
    exact ⟨fun _ => h1, fun _ => by decide⟩
  · rw [if_neg (fun q => h1 (e1.mp q))]
    by_cases h2 : a = b
    · rw [if_pos (e2.mpr h2)]
      exact ⟨fun q => absurd q (by decide), fun q => by omega⟩
    · rw [if_neg (fun q => h2 (e2.mp q))]
      exact ⟨fun q => absurd q (by decide), fun q => by omega⟩
theorem jcmp_le {a b : Int} (ha : R63 a) (hb : R63 b) : lg_cmp (jL a) (jL b) ≤ 0 ↔ a ≤ b := by
  have := jcmp_gt ha hb
  constructor
  · intro h
    rcases Int.lt_or_le b a with q | q
    · exact absurd (this.mpr q) (Int32.not_lt.mpr h)
    · exact q
  · intro h
    exact Int32.not_lt.mp (fun q => by have := this.mp q; omega)
theorem jcmp_ge {a b : Int} (ha : R63 a) (hb : R63 b) : 0 ≤ lg_cmp (jL a) (jL b) ↔ b ≤ a := by
  have := jcmp_lt ha hb
  constructor
  · intro h
    rcases Int.lt_or_le a b with q | q
    · exact absurd (this.mpr q) (Int32.not_lt.mpr h)
    · exact q
  · intro h
    exact Int32.not_lt.mp (fun q => by have := this.mp q; omega)
theorem jcmp_eq {a b : Int} (ha : R63 a) (hb : R63 b) : lg_cmp (jL a) (jL b) = 0 ↔ a = b := by
  unfold lg_cmp
  have e1 : (jL a > jL b) ↔ b < a := jLlt hb ha
  have e2 := jLeq ha hb
  by_cases h1 : b < a
  · rw [if_pos (e1.mpr h1)]
    exact ⟨fun q => absurd q (by decide), fun q => by omega⟩
  · rw [if_neg (fun q => h1 (e1.mp q))]
    by_cases h2 : a = b
    · rw [if_pos (e2.mpr h2)]
      exact ⟨fun _ => h2, fun _ => rfl⟩
    · rw [if_neg (fun q => h2 (e2.mp q))]
      exact ⟨fun q => absurd q (by decide), fun q => absurd q h2⟩
-- what stays
def Fr (S : List Nat) (σ τ : Mm) : Prop := (∀ b, b ∉ S → τ.1 b = σ.1 b) ∧ (∀ b, b ∉ S → τ.2 b = σ.2 b)
theorem Fr.rf {S : List Nat} {σ : Mm} : Fr S σ σ := ⟨fun _ _ => rfl, fun _ _ => rfl⟩
theorem Fr.tr {S : List Nat} {σ τ ρ : Mm} (h : Fr S σ τ) (h2 : Fr S τ ρ) : Fr S σ ρ := ⟨fun b hb => (h2.1 b hb).trans (h.1 b hb), fun b hb => (h2.2 b hb).trans (h.2 b hb)⟩
theorem Fr.sub {S S' : List Nat} {σ τ : Mm} (h : Fr S σ τ) (hs : ∀ b, b ∈ S → b ∈ S') : Fr S' σ τ := ⟨fun b hb => h.1 b (fun q => hb (hs b q)), fun b hb => h.2 b (fun q => hb (hs b q))⟩
theorem Fr.uI {S : List Nat} {σ τ : Mm} {a k : Nat} {v : Int32} (h : Fr S σ τ) (ha : a ∈ S) : Fr S σ (uI τ a k v) := ⟨fun b hb => by
  have hne : b ≠ a := fun e => hb (e ▸ ha)
  show (if b = a then _ else τ.1 b) = _
  rw [if_neg hne]; exact h.1 b hb, fun b hb => h.2 b hb⟩
theorem Fr.uJ {S : List Nat} {σ τ : Mm} {a k : Nat} {v : Int64} (h : Fr S σ τ) (ha : a ∈ S) : Fr S σ (uJ τ a k v) := ⟨fun b hb => h.1 b hb, fun b hb => by
  have hne : b ≠ a := fun e => hb (e ▸ ha)
  show (if b = a then _ else τ.2 b) = _
  rw [if_neg hne]; exact h.2 b hb⟩
theorem Fr.uR {S : List Nat} {σ τ : Mm} {a : Nat} {r : Nat → Int32} (h : Fr S σ τ) (ha : a ∈ S) : Fr S σ (uR τ a r) := ⟨fun b hb => by
  have hne : b ≠ a := fun e => hb (e ▸ ha)
  show (if b = a then _ else τ.1 b) = _
  rw [if_neg hne]; exact h.1 b hb, fun b hb => h.2 b hb⟩
theorem uI_s (σ : Mm) (a k : Nat) (v : Int32) : (uI σ a k v).1 a = upd (σ.1 a) k v := by simp [uI]
theorem uI_n {σ : Mm} {a b k : Nat} {v : Int32} (h : b ≠ a) : (uI σ a k v).1 b = σ.1 b := by simp [uI, h]
theorem uI_2 (σ : Mm) (a k : Nat) (v : Int32) : (uI σ a k v).2 = σ.2 := rfl
theorem uJ_s (σ : Mm) (a k : Nat) (v : Int64) : (uJ σ a k v).2 a = vp_updL (σ.2 a) k v := by simp [uJ]
theorem uJ_n {σ : Mm} {a b k : Nat} {v : Int64} (h : b ≠ a) : (uJ σ a k v).2 b = σ.2 b := by simp [uJ, h]
theorem uJ_1 (σ : Mm) (a k : Nat) (v : Int64) : (uJ σ a k v).1 = σ.1 := rfl
theorem upd_s (f : Nat → Int32) (k : Nat) (v : Int32) : upd f k v k = v := by simp [upd]
theorem upd_n {f : Nat → Int32} {j k : Nat} {v : Int32} (h : j ≠ k) : upd f k v j = f j := by simp [upd, h]
theorem updL_s (f : Nat → Int64) (k : Nat) (v : Int64) : vp_updL f k v k = v := by simp [vp_updL]
theorem updL_n {f : Nat → Int64} {j k : Nat} {v : Int64} (h : j ≠ k) : vp_updL f k v j = f j := by simp [vp_updL, h]
