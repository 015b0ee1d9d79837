-- items of a clause, read purely: behind a place, with what was met, the numbers so far
/-- which item a sign is, of a sort of clause; -1 none -/
def itW (s : Nat) (c : Int) : Int := plc (stc (220 + s)) (jI c) (stc (220 + s)).length 0
abbrev seenB (met : Int32) (w : Nat) : Prop := ((met >>> (jI (w : Int) &&& 31)) &&& 1) ≠ 0
def metB (met : Int32) (w : Nat) : Int32 := met ||| (1 <<< (jI (w : Int) &&& 31))
/-- where one stands, the fault (-1 none), the numbers -/
def itF (T : Tp) (s : Nat) : Nat → Nat → Int32 → (Nat → Int) → Nat × Int × (Nat → Int)
  | 0, p, _, r => (sk T p, -1, r)
  | m + 1, p, met, r =>
    if itW s (ch T (sk T p)) = -1 then (sk T p, -1, r)
    else if seenB met (itW s (ch T (sk T p))).toNat then (sk T p, (sk T p : Int), r)
    else if (nuE T (sk T p + 1)).2.2 ≠ -1 then ((nuE T (sk T p + 1)).1, (nuE T (sk T p + 1)).2.2, fun j => if j = (itW s (ch T (sk T p))).toNat then (nuE T (sk T p + 1)).2.1 else r j)
    else if ¬ ((loB s (itW s (ch T (sk T p))).toNat).toInt ≤ (nuE T (sk T p + 1)).2.1 ∧ (nuE T (sk T p + 1)).2.1 ≤ (hiB s (itW s (ch T (sk T p))).toNat).toInt) then ((nuE T (sk T p + 1)).1 - 1, ((nuE T (sk T p + 1)).1 : Int) - 1, fun j => if j = (itW s (ch T (sk T p))).toNat then (nuE T (sk T p + 1)).2.1 else r j)
    else itF T s m (nuE T (sk T p + 1)).1 (metB met (itW s (ch T (sk T p))).toNat) (fun j => if j = (itW s (ch T (sk T p))).toNat then (nuE T (sk T p + 1)).2.1 else r j)
theorem nuE_in {T : Tp} {p : Nat} (hp : p ≤ T.n) : p ≤ (nuE T p).1 ∧ (nuE T p).1 ≤ T.n ∧ ((nuE T p).2.2 = -1 → p < (nuE T p).1) ∧ (-1 ≤ (nuE T p).2.2 ∧ (nuE T p).2.2 ≤ T.n) ∧ (0 ≤ (nuE T p).2.1 ∧ (nuE T p).2.1 < 10000) := by
  have hs := sk_in hp
  unfold nuE
  by_cases q : dg T (sk T p)
  · rw [if_pos q]
    have hl := dg_lt q
    have h := nuF_in T 4 (sk T p) 0 hs.2 (by omega)
    have h10 : ((0 : Int) + 1) * 10 ^ 4 = 10000 := by decide
    rw [h10] at h
    have e : nuF T 4 (sk T p) 0 = nuF T 3 (sk T p + 1) (10 * 0 + (ch T (sk T p) - 48)) := by
      show (if dg T (sk T p) then nuF T 3 (sk T p + 1) (10 * 0 + (ch T (sk T p) - 48)) else (sk T p, 0)) = _
      rw [if_pos q]
    have h8 := (nuF_in T 3 (sk T p + 1) (10 * 0 + (ch T (sk T p) - 48)) (by omega) (by unfold dg at q; omega)).1
    rw [← e] at h8
    refine ⟨?_, h.2.1, fun _ => ?_, ?_, h.2.2.1, h.2.2.2⟩
    · show p ≤ (nuF T 4 (sk T p) 0).1
      omega
    · show p < (nuF T 4 (sk T p) 0).1
      omega
    · show -1 ≤ (if dg T (nuF T 4 (sk T p) 0).1 then ((nuF T 4 (sk T p) 0).1 : Int) else -1) ∧ (if dg T (nuF T 4 (sk T p) 0).1 then ((nuF T 4 (sk T p) 0).1 : Int) else -1) ≤ T.n
      split <;> omega
  · rw [if_neg q]
    exact ⟨hs.1, hs.2, fun z => absurd (show (sk T p : Int) = -1 from z) (by omega), ⟨show (-1 : Int) ≤ (sk T p : Int) by omega, show (sk T p : Int) ≤ T.n by omega⟩, ⟨show (0 : Int) ≤ 0 by omega, show (0 : Int) < 10000 by omega⟩⟩
theorem itW_in (s : Nat) (c : Int) : itW s c = -1 ∨ 0 ≤ itW s c ∧ itW s c < (stc (220 + s)).length := by
  have := plc_in (stc (220 + s)) (jI c) (stc (220 + s)).length 0
  unfold itW
  omega
theorem len_sz (s : Nat) (hs : s < 4) : (stc (220 + s)).length = szB s := by
  have : s = 0 ∨ s = 1 ∨ s = 2 ∨ s = 3 := by omega
  rcases this with rfl | rfl | rfl | rfl <;> rfl
