-- draws
def dX (x : Int64) : Int64 := x * 6364136223846793005 + 1442695040888963407
def dU (x : Int64) : Int := (((dX x).toUInt64.toNat >>> 33 : Nat) : Int)
theorem dU_in (x : Int64) : 0 ≤ dU x ∧ dU x < 2147483648 := by
  unfold dU
  have h := (dX x).toUInt64.toNat_lt
  rw [Nat.shiftRight_eq_div_pow]
  omega
theorem dU_eq (x : Int64) : ((dX x).toUInt64 >>> ((33 : Int32).toInt64.toUInt64 &&& Int64.toUInt64 63)).toInt64 = jL (dU x) := by
  have e : ((33 : Int32).toInt64.toUInt64 &&& Int64.toUInt64 63) = 33 := by decide
  rw [e]
  have h := dU_in x
  have h2 : ((dX x).toUInt64 >>> 33).toNat = (dX x).toUInt64.toNat >>> 33 := by
    rw [UInt64.toNat_shiftRight]
    rfl
  unfold dU at h ⊢
  apply Int64.toInt_inj.mp
  rw [jL_T (by omega)]
  show ((dX x).toUInt64 >>> 33).toBitVec.toInt = _
  rw [BitVec.toInt_eq_toNat_of_lt]
  · show (((dX x).toUInt64 >>> 33).toNat : Int) = _
    rw [h2]
  · show 2 * ((dX x).toUInt64 >>> 33).toNat < _
    rw [h2]
    have := h.2
    omega
theorem jLrem {a b : Int} (ha : 0 ≤ a) (ha2 : a < 9223372036854775808) (hb : 0 < b) (hb2 : b < 9223372036854775808) : jL a - jL a / jL b * jL b = jL (a % b) := by
  rw [jLdiv ha ha2 hb hb2, jLmul, jLsub]
  congr 1
  have := Int.emod_add_mul_ediv a b
  rw [Int.mul_comm] at this
  omega
def dV (x : Int64) (j : Int) : Int := dU x % j
theorem dV_in (x : Int64) (j : Int) (hj : 1 ≤ j) : 0 ≤ dV x j ∧ dV x j < j := ⟨Int.emod_nonneg _ (by omega), Int.emod_lt_of_pos _ (by omega)⟩
section DR
variable {l : Launch} {G : GT} {d : Nat} {σ : Mm} {Q : Po}
theorem dr_eq (x : Int64) {y : Int32} (j : Int) (hj : 1 ≤ j ∧ j ≤ 100000) (ey : y = jI j) : (((dX x).toUInt64 >>> ((33 : Int32).toInt64.toUInt64 &&& Int64.toUInt64 63)).toInt64 - ((dX x).toUInt64 >>> ((33 : Int32).toInt64.toUInt64 &&& Int64.toUInt64 63)).toInt64 / y.toInt64 * y.toInt64).toInt32 = jI (dV x j) := by
  have h := dU_in x
  rw [dU_eq, ey, jI_L (by omega), jLrem (by omega) (by omega) (by omega) (by omega), jL_I]
  rfl
theorem c_draw {y : Int32} (j : Int) (hj : 1 ≤ j ∧ j ≤ 100000) (hq : Q (some (.int (jI (dV (σ.2 98 36) j)))) (uJ σ 98 36 (dX (σ.2 98 36)))) (ey : y = jI j := by first | rfl | assumption | (simp only [jlit, jneg, jadd, jsub, jmul]; done) | (simp only [jlit, jneg, jadd, jsub, jmul]; congr 1 <;> omega) | (congr 1 <;> omega)) : MW l G d mX12_draw [.ref 98, .int y] σ Q := by
  refine vX12_draw [] 40 ?_
  refine And.intro ?_ ?_
  · rw [ey, jI_L (by omega), show (0 : Int64) = jL 0 from rfl, jLeq (by omega) (by omega)]
    omega
  · have e := dr_eq (σ.2 98 36) j hj ey
    have e2 : (uJ σ 98 36 (dX (σ.2 98 36))).2 98 36 = dX (σ.2 98 36) := by rw [uJ_s, updL_s]
    rw [← e, ← e2] at hq
    exact hq
theorem k_draw {y : Int32} (j : Int) (hj : 1 ≤ j ∧ j ≤ 100000) (hq : Q (some (.int (jI (dV (σ.2 0 13) j)))) (uJ σ 0 13 (dX (σ.2 0 13)))) (ey : y = jI j := by first | rfl | assumption | (simp only [jlit, jneg, jadd, jsub, jmul]; done) | (simp only [jlit, jneg, jadd, jsub, jmul]; congr 1 <;> omega) | (congr 1 <;> omega)) : MW l G d mX11_draw [.ref 0, .int y] σ Q := by
  refine vX11_draw [] 40 ?_
  refine brle 1 j (fun _ => ?_) (fun q => by omega)
  refine And.intro ?_ ?_
  · rw [ey, jI_L (by omega), show (0 : Int64) = jL 0 from rfl, jLeq (by omega) (by omega)]
    omega
  · have e := dr_eq (σ.2 0 13) j hj ey
    have e2 : (uJ σ 0 13 (dX (σ.2 0 13))).2 0 13 = dX (σ.2 0 13) := by rw [uJ_s, updL_s]
    rw [← e, ← e2] at hq
    exact hq
end DR
/-- what is drawn: the act, its numbers, the state of the draws behind -/
def dPick (ru : Nat → Int) (x : Int64) : Int × Int × Int × Int × Int64 :=
  if dV x 8 < 3 then (if dV (dX x) 100 < ru 6 then 0 else 1, 0, 0, 0, dX (dX x))
  else if dV x 8 = 3 then (7, 0, 0, 0, dX x)
  else if dV x 8 = 4 then (2 + dV (dX x) 3, 0, 0, 0, dX (dX x))
  else if dV x 8 = 5 then (5, dV (dX x) 12 + 1, dV (dX (dX x)) 1000, 0, dX (dX (dX x)))
  else (6, dV (dX x) 12, dV (dX (dX x)) 12, dV (dX (dX (dX x))) 200, dX (dX (dX (dX x))))
def hPick (ru : Nat → Int) (H : Hs) (x : Int64) : Hs := hAct ru H (dPick ru x).1 (dPick ru x).2.1 (dPick ru x).2.2.1 (dPick ru x).2.2.2.1
