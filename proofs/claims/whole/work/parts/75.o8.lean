-- two bits of a row
theorem bvd {d : BitVec 32} (hd : d.toNat < 4) (j : Nat) (hj : 2 ≤ j) : d.getLsbD j = false := by
  show Nat.testBit d.toNat j = false
  apply Nat.testBit_lt_two_pow
  have h4 : (2 : Nat) ^ 2 ≤ 2 ^ j := Nat.pow_le_pow_right (by decide) hj
  omega
theorem bv3 (j : Nat) : (3#32).getLsbD j = decide (j < 2) := by
  match j with
  | 0 => rfl
  | 1 => rfl
  | j + 2 =>
    rw [bvd (d := 3#32) (by decide) (j + 2) (by omega)]
    simp
theorem set2 (v d : BitVec 32) (s s' : Nat) (hd : d.toNat < 4) (hs : s ≤ 22) (hs' : s' ≤ 22) (hp : s = s' ∨ s + 2 ≤ s' ∨ s' + 2 ≤ s) : (((v &&& ((3#32 <<< s) ^^^ (BitVec.allOnes 32))) ||| (d <<< s)).sshiftRight s') &&& 3#32 = if s = s' then d else (v.sshiftRight s') &&& 3#32 := by
  apply BitVec.eq_of_getLsbD_eq
  intro i hi
  by_cases h2 : i < 2
  · have e1 : (3#32).getLsbD i = true := by rw [bv3]; simp [h2]
    rw [BitVec.getLsbD_and, e1, Bool.and_true, BitVec.getLsbD_sshiftRight]
    have h3 : ¬ (32 ≤ i) := by omega
    have h4 : s' + i < 32 := by omega
    simp only [h3, h4, decide_false, Bool.not_false, Bool.true_and, if_true, BitVec.getLsbD_or, BitVec.getLsbD_and, BitVec.getLsbD_xor, BitVec.getLsbD_shiftLeft, bv3, BitVec.getLsbD_allOnes, decide_true]
    rcases hp with q | q | q
    · subst q
      rw [if_pos rfl]
      have e2 : ¬ (s + i < s) := by omega
      have e3 : s + i - s = i := by omega
      simp [e2, e3, h2]
    · have e2 : ¬ (s' + i < s) := by omega
      have e3 : ¬ (s' + i - s < 2) := by omega
      rw [if_neg (by omega), BitVec.getLsbD_and, e1, Bool.and_true, BitVec.getLsbD_sshiftRight]
      simp [e2, e3, h3, h4, bvd hd (s' + i - s) (by omega)]
    · have e2 : s' + i < s := by omega
      rw [if_neg (by omega), BitVec.getLsbD_and, e1, Bool.and_true, BitVec.getLsbD_sshiftRight]
      simp [e2, h3, h4]
  · have e1 : (3#32).getLsbD i = false := by rw [bv3]; simp [h2]
    rw [BitVec.getLsbD_and, e1, Bool.and_false]
    split
    · exact (bvd hd i (by omega)).symm
    · rw [BitVec.getLsbD_and, e1, Bool.and_false]
theorem sh2 : ∀ h : Fin 12, ((2 * jI (h.val : Int)) &&& 31).toBitVec.smod 32 = BitVec.ofNat 32 (2 * h.val) := by decide
theorem set2I (v : Int32) (dd : Int) (h h' : Nat) (hh : h < 12) (hh' : h' < 12) (hd : 0 ≤ dd ∧ dd ≤ 2) : ((((v &&& (((3 : Int32) <<< ((2 * jI h) &&& 31)) ^^^ (-1))) ||| (jI dd <<< ((2 * jI h) &&& 31))) >>> ((2 * jI h') &&& 31)) &&& 3) = if h = h' then jI dd else (v >>> ((2 * jI h') &&& 31)) &&& 3 := by
  have s1 := sh2 ⟨h, hh⟩
  have s2 := sh2 ⟨h', hh'⟩
  dsimp only at s1 s2
  have hdn : (jI dd).toBitVec.toNat < 4 := by
    have : dd = 0 ∨ dd = 1 ∨ dd = 2 := by omega
    rcases this with rfl | rfl | rfl <;> decide
  have key := set2 v.toBitVec (jI dd).toBitVec (2 * h) (2 * h') hdn (by omega) (by omega) (by omega)
  apply Int32.toBitVec_inj.mp
  rw [apply_ite Int32.toBitVec]
  rw [show (if h = h' then (jI dd).toBitVec else ((v >>> ((2 * jI h') &&& 31)) &&& 3).toBitVec) = if 2 * h = 2 * h' then (jI dd).toBitVec else v.toBitVec.sshiftRight (2 * h') &&& 3#32 by
    have e : ((v >>> ((2 * jI h') &&& 31)) &&& 3).toBitVec = v.toBitVec.sshiftRight (2 * h') &&& 3#32 := by
      rw [Int32.toBitVec_and, Int32.toBitVec_shiftRight, s2]
      show v.toBitVec.sshiftRight (BitVec.ofNat 32 (2 * h')).toNat &&& _ = _
      rw [BitVec.toNat_ofNat, Nat.mod_eq_of_lt (by omega)]
      rfl
    rw [e]
    by_cases q : h = h'
    · rw [if_pos q, if_pos (by omega)]
    · rw [if_neg q, if_neg (by omega)]]
  rw [← key]
  rw [Int32.toBitVec_and, Int32.toBitVec_shiftRight, s2, Int32.toBitVec_or, Int32.toBitVec_and, Int32.toBitVec_xor, Int32.toBitVec_shiftLeft, Int32.toBitVec_shiftLeft, s1]
  show BitVec.sshiftRight _ (BitVec.ofNat 32 (2 * h')).toNat &&& _ = _
  rw [BitVec.toNat_ofNat, Nat.mod_eq_of_lt (by omega), BitVec.shiftLeft_eq', BitVec.shiftLeft_eq', BitVec.toNat_ofNat, Nat.mod_eq_of_lt (by omega)]
  rfl
