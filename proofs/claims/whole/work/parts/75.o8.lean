-- two bits of a row
theorem bvd {d : BitVec 32} (hd : d.toNat < 4) (j : Nat) (hj : 2 ≤ j) : d.getLsbD j = false := by
  show Nat.testBit d.toNat j = false
  apply Nat.testBit_lt_two_pow
  have h4 : (2 : Nat) ^ 2 ≤ 2 ^ j := Nat.pow_le_pow_right (by decide) hj
  omega
theorem bv3 (j : Nat) : (3#32).getLsbD j = decide (j < 2) := by
  match j with
  | 0 => rfl
  | 1 => rfl
  | j + 2 =>
    rw [bvd (d := 3#32) (by decide) (j + 2) (by omega)]
    simp
theorem set2 (v d : BitVec 32) (s s' : Nat) (hd : d.toNat < 4) (hs : s ≤ 22) (hs' : s' ≤ 22) (hp : s = s' ∨ s + 2 ≤ s' ∨ s' + 2 ≤ s) : (((v &&& ((3#32 <<< s) ^^^ (BitVec.allOnes 32))) ||| (d <<< s)).sshiftRight s') &&& 3#32 = if s = s' then d else (v.sshiftRight s') &&& 3#32 := by
  apply BitVec.eq_of_getLsbD_eq
  intro i hi
  by_cases h2 : i < 2
  · have e1 : (3#32).getLsbD i = true := by rw [bv3]; simp [h2]
    rw [BitVec.getLsbD_and, e1, Bool.and_true, BitVec.getLsbD_sshiftRight]
    have h3 : ¬ (32 ≤ i) := by omega
    have h4 : s' + i < 32 := by omega
    simp only [h3, h4, decide_false, Bool.not_false, Bool.true_and, if_true, BitVec.getLsbD_or, BitVec.getLsbD_and, BitVec.getLsbD_xor, BitVec.getLsbD_shiftLeft, bv3, BitVec.getLsbD_allOnes, decide_true]
    rcases hp with q | q | q
    · subst q
      rw [if_pos rfl]
      have e2 : ¬ (s + i < s) := by omega
      have e3 : s + i - s = i := by omega
      simp [e2, e3, h2]
    · have e2 : ¬ (s' + i < s) := by omega
      have e3 : ¬ (s' + i - s < 2) := by omega
      rw [if_neg (by omega), BitVec.getLsbD_and, e1, Bool.and_true, BitVec.getLsbD_sshiftRight]
      simp [e2, e3, h3, h4, bvd hd (s' + i - s) (by omega)]
    · have e2 : s' + i < s := by omega
      rw [if_neg (by omega), BitVec.getLsbD_and, e1, Bool.and_true, BitVec.getLsbD_sshiftRight]
      simp [e2, h3, h4]
  · have e1 : (3#32).getLsbD i = false := by rw [bv3]; simp [h2]
    rw [BitVec.getLsbD_and, e1, Bool.and_false]
    split
    · exact (bvd hd i (by omega)).symm
    · rw [BitVec.getLsbD_and, e1, Bool.and_false]
