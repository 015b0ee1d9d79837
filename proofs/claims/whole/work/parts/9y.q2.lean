-- a number of a part: the class's reader
section KPa
variable {l : Launch} {G : GT} {d : Nat} {σ : Mm} {Q : Po}
theorem k_part {x y : Int32} (n i w : Nat) {v : Int32} (hn : σ.1 8 2 = jI (n : Int)) (hn2 : n ≤ 28) (hi : i < n) (hw : w < 4) (hv : σ.1 10 (4 * i + w) = v) (hq : Q (some (.int v)) σ) (ex : x = jI (i : Int) := by first | rfl | assumption | (simp only [jlit, jneg, jadd, jsub, jmul]; done) | (simp only [jlit, jneg, jadd, jsub, jmul]; congr 1 <;> omega) | (congr 1 <;> omega)) (ey : y = jI (w : Int) := by first | rfl | assumption | (simp only [jlit, jneg, jadd, jsub, jmul]; done) | (simp only [jlit, jneg, jadd, jsub, jmul]; congr 1 <;> omega) | (congr 1 <;> omega)) : MW l G d mX4_part [.ref 8, .int x, .int y] σ Q := by
  refine vX4_part [] 40 ?_
  refine brlt (i : Int) 0 (fun q => by omega) (fun _ => ?_) (hx := ex) (hy := rfl)
  refine brle (n : Int) (i : Int) (fun q => by omega) (fun _ => ?_) (hx := hn) (hy := ex)
  refine brlt (w : Int) 0 (fun q => by omega) (fun _ => ?_) (hx := ey) (hy := rfl)
  refine brle 4 (w : Int) (fun q => by omega) (fun _ => ?_) (hx := rfl) (hy := ey)
  exact ldI 112 (4 * i + w) hv hq (hi := by rw [ex, ey]; simp only [jlit, jadd, jmul]; congr 1; omega)
end KPa
