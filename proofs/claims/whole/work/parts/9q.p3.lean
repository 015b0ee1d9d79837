-- places of signs: the class
/-- the first place from i on, of m places, with a sign -/
def plc (L : List Int32) (x : Int32) : Nat → Nat → Int
  | 0, _ => -1
  | m + 1, i => if L.getD i 0 = x then (i : Int) else plc L x m (i + 1)
theorem plc_in (L : List Int32) (x : Int32) : ∀ m i, plc L x m i = -1 ∨ (i : Int) ≤ plc L x m i ∧ plc L x m i < i + m
  | 0, i => Or.inl rfl
  | m + 1, i => by
    have := plc_in L x m (i + 1)
    unfold plc
    split <;> omega
section KP3
variable {l : Launch} {G : GT} {d : Nat} {σ : Mm} {Q : Po}
theorem k_placeOf {a : Nat} {x y z : Int32} (hG : GX G) (n p q : Nat) (ha : a = 200 ∧ n = 4 ∨ a = 203 ∧ n = 22 ∨ a = 207 ∧ n = 10) (hpq : p ≤ q) (hq2 : q ≤ n) (hq : Q (some (.int (jI (plc (stc a) z (q - p) p)))) σ) (ex : x = jI (p : Int) := by first | rfl | assumption | (simp only [jlit, jneg, jadd, jsub, jmul]; done) | (simp only [jlit, jneg, jadd, jsub, jmul]; congr 1 <;> omega) | (congr 1 <;> omega)) (ey : y = jI (q : Int) := by first | rfl | assumption | (simp only [jlit, jneg, jadd, jsub, jmul]; done) | (simp only [jlit, jneg, jadd, jsub, jmul]; congr 1 <;> omega) | (congr 1 <;> omega)) : MW l G d mX4_placeOf [.ref a, .int x, .int y, .int z] σ Q := by
  have go : ∀ (m i : Nat) (u : Int32), i + m = q → u = jI (i : Int) → Q (some (.int (jI (plc (stc a) z m i)))) σ → Wp l G d mX4_placeOf 3 [(0, .ref a), (1, .int x), (2, .int y), (3, .int z), (4, .int u)] [] σ Q := by
    intro m
    induction m with
    | zero =>
      intro i u hm hu hQ
      refine wX4_placeOf [] 40 ?_
      exact brle (q : Int) (i : Int) (fun _ => hQ) (fun w => by omega) (hx := ey) (hy := hu)
    | succ m ih =>
      intro i u hm hu hQ
      unfold plc at hQ
      have fin : ∀ v : Int32, (stc a).getD i 0 = v → (v = z → Q (some (.int u)) σ) ∧ (¬ v = z → Wp l G d mX4_placeOf 3 [(0, .ref a), (1, .int x), (2, .int y), (3, .int z), (4, .int (u + 1))] [] σ Q) := by
        intro v hv
        rw [hv] at hQ
        refine ⟨fun w => ?_, fun w => ?_⟩
        · rw [if_pos w, ← hu] at hQ
          exact hQ
        · rw [if_neg w] at hQ
          exact ih (i + 1) _ (by omega) (by rw [hu]; simp only [jlit, jadd]; congr 1) hQ
      refine wX4_placeOf [(3, [0, 1, 2, 3, 4])] 40 ?_
      refine brle (q : Int) (i : Int) (fun w => by omega) (fun _ => ?_) (hx := ey) (hy := hu)
      rcases ha with ⟨rfl, rfl⟩ | ⟨rfl, rfl⟩ | ⟨rfl, rfl⟩
      · refine And.intro hG ?_
        refine brle 4 (i : Int) (fun w => by omega) (fun _ => ?_) (hx := rfl) (hy := hu)
        refine And.intro hG ?_
        refine ldI (f := fun k => (stc 200).getD k 0) 4 i rfl ?_ (hi := hu)
        exact fin _ rfl
      · refine And.intro hG ?_
        refine brle 22 (i : Int) (fun w => by omega) (fun _ => ?_) (hx := rfl) (hy := hu)
        refine And.intro hG ?_
        refine ldI (f := fun k => (stc 203).getD k 0) 22 i rfl ?_ (hi := hu)
        exact fin _ rfl
      · refine And.intro hG ?_
        refine brle 10 (i : Int) (fun w => by omega) (fun _ => ?_) (hx := rfl) (hy := hu)
        refine And.intro hG ?_
        refine ldI (f := fun k => (stc 207).getD k 0) 10 i rfl ?_ (hi := hu)
        exact fin _ rfl
  refine vX4_placeOf [(3, [0, 1, 2, 3, 4])] 40 ?_
  exact go (q - p) p x (by omega) ex hq
end KP3
