-- bounds of items: the reference
/-- where the items of a sort of clause begin -/
def frm (s : Nat) : Nat := if s = 0 then 0 else if s = 1 then 14 else if s = 2 then 16 else 19
def loB (s w : Nat) : Int32 := (stc 204).getD (frm s + w) 0
def hiB (s w : Nat) : Int32 := (stc 205).getD (frm s + w) 0
def szB (s : Nat) : Nat := if s = 0 then 14 else if s = 1 then 2 else 3
section MB7
variable {l : Launch} {G : GT} {d : Nat} {σ : Mm} {Q : Po}
theorem c_mostOf {x : Int32} (w : Nat) (hw : w < 14) (hq : Q (some (.int (hiB 0 w))) σ) (ex : x = jI (w : Int) := by first | rfl | assumption | (simp only [jlit, jneg, jadd, jsub, jmul]; done) | (simp only [jlit, jneg, jadd, jsub, jmul]; congr 1 <;> omega) | (congr 1 <;> omega)) : MW l G d mX12_mostOf [.int x] σ Q := by
  have xw : x.toInt = w := by rw [ex]; exact jI_T (by omega)
  refine vX12_mostOf [] 60 ?_
  refine ⟨⟨fun e => ?_, fun e => ?_, fun e => ?_, fun e => ?_, fun e => ?_, fun e => ?_, fun e => ?_, fun e => ?_, fun e => ?_, fun e => ?_, fun e => ?_, fun e => ?_, fun e => ?_, fun e => ?_, trivial⟩, fun e => ?_⟩
  · obtain rfl : w = 0 := by omega
    exact hq
  · obtain rfl : w = 1 := by omega
    exact hq
  · obtain rfl : w = 2 := by omega
    exact hq
  · obtain rfl : w = 3 := by omega
    exact hq
  · obtain rfl : w = 4 := by omega
    exact hq
  · obtain rfl : w = 5 := by omega
    exact hq
  · obtain rfl : w = 6 := by omega
    exact hq
  · obtain rfl : w = 7 := by omega
    exact hq
  · obtain rfl : w = 8 := by omega
    exact hq
  · obtain rfl : w = 9 := by omega
    exact hq
  · obtain rfl : w = 10 := by omega
    exact hq
  · obtain rfl : w = 11 := by omega
    exact hq
  · obtain rfl : w = 12 := by omega
    exact hq
  · obtain rfl : w = 13 := by omega
    exact hq
  · have e : x.toInt < 0 ∨ 13 < x.toInt := e
    omega
theorem c_usual {x : Int32} (w : Nat) (hw : w < 14) (hq : Q (some (.int ((stc 206).getD w 0))) σ) (ex : x = jI (w : Int) := by first | rfl | assumption | (simp only [jlit, jneg, jadd, jsub, jmul]; done) | (simp only [jlit, jneg, jadd, jsub, jmul]; congr 1 <;> omega) | (congr 1 <;> omega)) : MW l G d mX12_usual [.int x] σ Q := by
  have xw : x.toInt = w := by rw [ex]; exact jI_T (by omega)
  refine vX12_usual [] 60 ?_
  refine ⟨⟨fun e => ?_, fun e => ?_, fun e => ?_, fun e => ?_, fun e => ?_, fun e => ?_, fun e => ?_, fun e => ?_, fun e => ?_, fun e => ?_, fun e => ?_, fun e => ?_, fun e => ?_, fun e => ?_, trivial⟩, fun e => ?_⟩
  · obtain rfl : w = 0 := by omega
    exact hq
  · obtain rfl : w = 1 := by omega
    exact hq
  · obtain rfl : w = 2 := by omega
    exact hq
  · obtain rfl : w = 3 := by omega
    exact hq
  · obtain rfl : w = 4 := by omega
    exact hq
  · obtain rfl : w = 5 := by omega
    exact hq
  · obtain rfl : w = 6 := by omega
    exact hq
  · obtain rfl : w = 7 := by omega
    exact hq
  · obtain rfl : w = 8 := by omega
    exact hq
  · obtain rfl : w = 9 := by omega
    exact hq
  · obtain rfl : w = 10 := by omega
    exact hq
  · obtain rfl : w = 11 := by omega
    exact hq
  · obtain rfl : w = 12 := by omega
    exact hq
  · obtain rfl : w = 13 := by omega
    exact hq
  · have e : x.toInt < 0 ∨ 13 < x.toInt := e
    omega
theorem c_laysBounds {x y : Int32} (s w : Nat) (hs : s < 4) (hw : w < szB s) (hq : Q none (uI (uI σ 98 18 (loB s w)) 98 19 (hiB s w))) (ex : x = jI (s : Int) := by first | rfl | assumption | (simp only [jlit, jneg, jadd, jsub, jmul]; done) | (simp only [jlit, jneg, jadd, jsub, jmul]; congr 1 <;> omega) | (congr 1 <;> omega)) (ey : y = jI (w : Int) := by first | rfl | assumption | (simp only [jlit, jneg, jadd, jsub, jmul]; done) | (simp only [jlit, jneg, jadd, jsub, jmul]; congr 1 <;> omega) | (congr 1 <;> omega)) : MW l G (d + 1) mX12_laysBounds [.ref 98, .int x, .int y] σ Q := by
  have h4 : s = 0 ∨ s = 1 ∨ s = 2 ∨ s = 3 := by omega
  have lo0 : ∀ w : Fin 14, loB 0 w.val = if w.val < 2 then 1 else 0 := by decide
  refine vX12_laysBounds [] 60 ?_
  rcases h4 with rfl | rfl | rfl | rfl
  · have hw : w < 14 := hw
    have hl := lo0 ⟨w, hw⟩
    dsimp only at hl
    refine breq 0 0 (fun _ => ?_) (fun q => absurd rfl q) (hx := ex) (hy := rfl)
    refine brlt (w : Int) 2 (fun q => ?_) (fun q => ?_) (hx := ey) (hy := rfl)
    · rw [if_pos (by omega)] at hl
      rw [hl] at hq
      refine breq 0 0 (fun _ => ?_) (fun q => absurd rfl q) (hx := ex) (hy := rfl)
      exact c_mostOf w hw hq ey
    · rw [if_neg (by omega)] at hl
      rw [hl] at hq
      refine breq 0 1 (fun q => by omega) (fun _ => ?_) (hx := ex) (hy := rfl)
      refine breq 0 0 (fun _ => ?_) (fun q => absurd rfl q) (hx := ex) (hy := rfl)
      exact c_mostOf w hw hq ey
  · have hw : w < 2 := hw
    refine breq 1 0 (fun q => by omega) (fun _ => ?_) (hx := ex) (hy := rfl)
    refine breq 1 1 (fun _ => ?_) (fun q => absurd rfl q) (hx := ex) (hy := rfl)
    refine breq (w : Int) 0 (fun q => ?_) (fun q => ?_) (hx := ey) (hy := rfl)
    · obtain rfl : w = 0 := by omega
      refine breq 1 0 (fun q => by omega) (fun _ => ?_) (hx := ex) (hy := rfl)
      refine breq 1 1 (fun _ => ?_) (fun q => absurd rfl q) (hx := ex) (hy := rfl)
      refine breq 0 0 (fun _ => ?_) (fun q => absurd rfl q) (hx := ey) (hy := rfl)
      exact hq
    · obtain rfl : w = 1 := by omega
      refine breq 1 0 (fun q => by omega) (fun _ => ?_) (hx := ex) (hy := rfl)
      refine breq 1 1 (fun _ => ?_) (fun q => absurd rfl q) (hx := ex) (hy := rfl)
      refine breq 1 0 (fun q => by omega) (fun _ => ?_) (hx := ey) (hy := rfl)
      exact hq
  · have hw : w < 3 := hw
    refine breq 2 0 (fun q => by omega) (fun _ => ?_) (hx := ex) (hy := rfl)
    refine breq 2 1 (fun q => by omega) (fun _ => ?_) (hx := ex) (hy := rfl)
    refine breq 2 0 (fun q => by omega) (fun _ => ?_) (hx := ex) (hy := rfl)
    refine breq 2 1 (fun q => by omega) (fun _ => ?_) (hx := ex) (hy := rfl)
    refine brle 2 (w : Int) (fun q => ?_) (fun q => ?_) (hx := rfl) (hy := ey)
    · obtain rfl : w = 2 := by omega
      refine breq 2 2 (fun _ => ?_) (fun q => absurd rfl q) (hx := ex) (hy := rfl)
      exact hq
    · have : w = 0 ∨ w = 1 := by omega
      rcases this with rfl | rfl <;> exact hq
  · have hw : w < 3 := hw
    refine breq 3 0 (fun q => by omega) (fun _ => ?_) (hx := ex) (hy := rfl)
    refine breq 3 1 (fun q => by omega) (fun _ => ?_) (hx := ex) (hy := rfl)
    refine breq 3 0 (fun q => by omega) (fun _ => ?_) (hx := ex) (hy := rfl)
    refine breq 3 1 (fun q => by omega) (fun _ => ?_) (hx := ex) (hy := rfl)
    refine brle 2 (w : Int) (fun q => ?_) (fun q => ?_) (hx := rfl) (hy := ey)
    · obtain rfl : w = 2 := by omega
      refine breq 3 2 (fun q => by omega) (fun _ => ?_) (hx := ex) (hy := rfl)
      exact hq
    · have : w = 0 ∨ w = 1 := by omega
      rcases this with rfl | rfl <;> exact hq
end MB7
