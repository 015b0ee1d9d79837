-- bits of numbers
theorem jI_bn (m : Nat) (h : m < 2147483648) : (jI (m : Int)).toBitVec.toNat = m := by
  rw [jn]
  show (BitVec.ofNat 32 m).toNat = m
  rw [BitVec.toNat_ofNat]
  omega
theorem shI {m k : Nat} (hm : m < 2147483648) (y : Int32) (hk : (y.toBitVec.smod 32).toNat = k) : jI (m : Int) >>> y = jI ((m / 2 ^ k : Nat) : Int) := by
  apply Int32.toInt_inj.mp
  have e : (jI (m : Int) >>> y).toInt = ((jI (m : Int)).toBitVec.sshiftRight' (y.toBitVec.smod 32)).toInt := rfl
  rw [e, BitVec.sshiftRight', hk, BitVec.toInt_sshiftRight]
  have e2 : (jI (m : Int)).toBitVec.toInt = (m : Int) := jI_T (by omega)
  have hle : m / 2 ^ k ≤ m := Nat.div_le_self _ _
  obtain ⟨z, hz⟩ : ∃ z : Nat, z = m / 2 ^ k := ⟨_, rfl⟩
  rw [← hz] at hle ⊢
  rw [e2, Int.shiftRight_eq_div_pow, jI_T (by omega), hz]
  push_cast
  rfl
theorem and1I (m : Nat) (hm : m < 2147483648) : jI (m : Int) &&& 1 = jI ((m % 2 : Nat) : Int) := by
  apply Int32.toBitVec_inj.mp
  apply BitVec.eq_of_toNat_eq
  rw [Int32.toBitVec_and, BitVec.toNat_and, jI_bn m hm, jI_bn _ (by omega)]
  show m &&& 1 = m % 2
  exact Nat.and_one_is_mod m
theorem and63I (m : Nat) (hm : m < 2147483648) : jI (m : Int) &&& 63 = jI ((m % 64 : Nat) : Int) := by
  apply Int32.toBitVec_inj.mp
  apply BitVec.eq_of_toNat_eq
  rw [Int32.toBitVec_and, BitVec.toNat_and, jI_bn m hm, jI_bn _ (by omega)]
  show m &&& 63 = m % 64
  exact Nat.and_two_pow_sub_one_eq_mod m 6
theorem sh12 : ∀ k : Fin 12, ((jI ((k.val : Nat) : Int) &&& 31).toBitVec.smod 32).toNat = k.val := by decide
theorem btI_v {m k : Nat} (hm : m < 2147483648) (hk : k < 12) : btI (jI (m : Int)) k = ((m / 2 ^ k % 2 : Nat) : Int) := by
  have hle : m / 2 ^ k ≤ m := Nat.div_le_self _ _
  unfold btI
  have e : jI (m : Int) >>> (jI (k : Int) &&& 31) = jI ((m / 2 ^ k : Nat) : Int) := shI hm _ (sh12 ⟨k, hk⟩)
  obtain ⟨z, hz⟩ : ∃ z : Nat, z = m / 2 ^ k := ⟨_, rfl⟩
  rw [← hz] at hle e ⊢
  rw [e, and1I _ (by omega), jI_T (by omega)]
theorem ushI {m k : Nat} (hm : m < 2147483648) (hk : k < 12) : ((jI (m : Int)).toUInt32 >>> ((jI (k : Int)).toUInt32 &&& Int32.toUInt32 31)).toInt32 = jI ((m / 2 ^ k : Nat) : Int) := by
  have u12 : ∀ k : Fin 12, ((jI ((k.val : Nat) : Int)).toUInt32 &&& Int32.toUInt32 31).toNat = k.val := by decide
  have hle : m / 2 ^ k ≤ m := Nat.div_le_self _ _
  apply Int32.toBitVec_inj.mp
  apply BitVec.eq_of_toNat_eq
  rw [jI_bn _ (by omega)]
  show ((jI (m : Int)).toUInt32 >>> ((jI (k : Int)).toUInt32 &&& Int32.toUInt32 31)).toNat = m / 2 ^ k
  rw [UInt32.toNat_shiftRight, u12 ⟨k, hk⟩]
  show (jI (m : Int)).toBitVec.toNat >>> (k % 32) = m / 2 ^ k
  rw [jI_bn m hm, Nat.mod_eq_of_lt (by omega), Nat.shiftRight_eq_div_pow]
-- the row of sums that were met
/-- whether a sum was met -/
def bsB (g : Nat → Int64) (v : Nat) : Bool := (g (v / 64)).toBitVec.getLsbD (v % 64)
theorem ush63 : ∀ k : Fin 64, ((jI ((k.val : Nat) : Int)).toInt64.toUInt64 &&& Int64.toUInt64 63).toNat = k.val := by decide
theorem shl63 : ∀ k : Fin 64, (((jI ((k.val : Nat) : Int)).toInt64 &&& 63).toBitVec.smod 64).toNat = k.val := by decide
theorem bs_get {x : Int64} {k : Nat} (hk : k < 64) : lg_cmp ((x.toUInt64 >>> ((jI (k : Int)).toInt64.toUInt64 &&& Int64.toUInt64 63)).toInt64 &&& 1) 0 = 0 ↔ x.toBitVec.getLsbD k = false := by
  have e : ((x.toUInt64 >>> ((jI (k : Int)).toInt64.toUInt64 &&& Int64.toUInt64 63)).toInt64 &&& 1).toBitVec.toNat = x.toBitVec.toNat >>> k % 2 := by
    rw [Int64.toBitVec_and, BitVec.toNat_and]
    show (x.toUInt64 >>> ((jI (k : Int)).toInt64.toUInt64 &&& Int64.toUInt64 63)).toNat &&& 1 = _
    rw [UInt64.toNat_shiftRight, ush63 ⟨k, hk⟩, Nat.mod_eq_of_lt hk]
    exact Nat.and_one_is_mod _
  have c : ∀ y : Int64, lg_cmp y 0 = 0 ↔ y = 0 := by
    intro y
    unfold lg_cmp
    by_cases h1 : y > 0
    · rw [if_pos h1]
      exact ⟨fun q => absurd q (by decide), fun q => by rw [q] at h1; exact absurd h1 (by decide)⟩
    · rw [if_neg h1]
      by_cases h2 : y = 0
      · rw [if_pos h2]
        exact ⟨fun _ => h2, fun _ => rfl⟩
      · rw [if_neg h2]
        exact ⟨fun q => absurd q (by decide), fun q => absurd q h2⟩
  rw [c]
  have b : x.toBitVec.getLsbD k = decide (x.toBitVec.toNat >>> k % 2 = 1) := by
    rw [BitVec.getLsbD, Nat.testBit, Nat.and_comm, Nat.and_one_is_mod]
    have : x.toBitVec.toNat >>> k % 2 = 0 ∨ x.toBitVec.toNat >>> k % 2 = 1 := by omega
    rcases this with q | q <;> rw [q] <;> rfl
  rw [b]
  constructor
  · intro q
    rw [q] at e
    rw [← e]
    rfl
  · intro q
    have q : ¬ x.toBitVec.toNat >>> k % 2 = 1 := of_decide_eq_false q
    apply Int64.toBitVec_inj.mp
    apply BitVec.eq_of_toNat_eq
    rw [e]
    show x.toBitVec.toNat >>> k % 2 = 0
    omega
theorem bs_set {x : Int64} {k j : Nat} (hk : k < 64) (hj : j < 64) : (x ||| ((1 : Int64) <<< ((jI (k : Int)).toInt64 &&& 63))).toBitVec.getLsbD j = (x.toBitVec.getLsbD j || decide (j = k)) := by
  rw [Int64.toBitVec_or, BitVec.getLsbD_or]
  congr 1
  have e : ((1 : Int64) <<< ((jI (k : Int)).toInt64 &&& 63)).toBitVec = (1#64) <<< (((jI (k : Int)).toInt64 &&& 63).toBitVec.smod 64) := rfl
  rw [e, BitVec.shiftLeft_eq', shl63 ⟨k, hk⟩, BitVec.getLsbD_shiftLeft]
  by_cases q : j = k
  · subst q
    simp [hj]
  · simp [q, hj]
    omega
