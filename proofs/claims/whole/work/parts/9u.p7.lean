-- bounds of items: the reference
/-- where the items of a sort of clause begin -/
def frm (s : Nat) : Nat := if s = 0 then 0 else if s = 1 then 14 else if s = 2 then 16 else 19
def loB (s w : Nat) : Int32 := (stc 204).getD (frm s + w) 0
def hiB (s w : Nat) : Int32 := (stc 205).getD (frm s + w) 0
def szB (s : Nat) : Nat := if s = 0 then 14 else if s = 1 then 2 else 3
section MB7
variable {l : Launch} {G : GT} {d : Nat} {σ : Mm} {Q : Po}
theorem c_mostOf {x : Int32} (w : Nat) (hw : w < 14) (hq : Q (some (.int (hiB 0 w))) σ) (ex : x = jI (w : Int) := by first | rfl | assumption | (simp only [jlit, jneg, jadd, jsub, jmul]; done) | (simp only [jlit, jneg, jadd, jsub, jmul]; congr 1 <;> omega) | (congr 1 <;> omega)) : MW l G d mX12_mostOf [.int x] σ Q := by
  have xw : x.toInt = w := by rw [ex]; exact jI_T (by omega)
  refine vX12_mostOf [] 60 ?_
  refine ⟨⟨fun e => ?_, fun e => ?_, fun e => ?_, fun e => ?_, fun e => ?_, fun e => ?_, fun e => ?_, fun e => ?_, fun e => ?_, fun e => ?_, fun e => ?_, fun e => ?_, fun e => ?_, fun e => ?_, trivial⟩, fun e => ?_⟩
  · obtain rfl : w = 0 := by omega
    exact hq
  · obtain rfl : w = 1 := by omega
    exact hq
  · obtain rfl : w = 2 := by omega
    exact hq
  · obtain rfl : w = 3 := by omega
    exact hq
  · obtain rfl : w = 4 := by omega
    exact hq
  · obtain rfl : w = 5 := by omega
    exact hq
  · obtain rfl : w = 6 := by omega
    exact hq
  · obtain rfl : w = 7 := by omega
    exact hq
  · obtain rfl : w = 8 := by omega
    exact hq
  · obtain rfl : w = 9 := by omega
    exact hq
  · obtain rfl : w = 10 := by omega
    exact hq
  · obtain rfl : w = 11 := by omega
    exact hq
  · obtain rfl : w = 12 := by omega
    exact hq
  · obtain rfl : w = 13 := by omega
    exact hq
  · have e : x.toInt < 0 ∨ 13 < x.toInt := e
    omega
end MB7
