-- the world while it is made: the first n cells, all zero; the ref places of S set, the others null
def pvS (G : GT) (S : List (Nat × Nat)) (a j : Nat) : Value := if (sh a).2.2.getD j 0 = 0 then .int 0 else if (sh a).2.2.getD j 0 = 1 then .long 0 else if (a, j) ∈ S then .ref (G.2.1 ((sh a).2.2.getD j 0 - 2)) else .null
def clS (G : GT) (S : List (Nat × Nat)) (a : Nat) : va_E :=
  if (sh a).1 < 2 then .inl (G.2.2.1 (sh a).1, (sh a).2.1, .inl (fun _ => 0))
  else if (sh a).1 = 2 then .inl (G.2.2.1 2, (sh a).2.1, .inr (.inl (fun _ => 0)))
  else if (sh a).1 < 10 then .inl (G.2.2.1 (sh a).1, (sh a).2.1, .inr (.inr (.inr (.inr (fun i => if (a, i) ∈ S then some (G.2.1 ((sh a).2.2.getD i 0)) else none)))))
  else .inr ((sh a).1 - 10, (List.range (sh a).2.1).map (pvS G S a))
def wBd (G : GT) (S : List (Nat × Nat)) (n : Nat) : va_W := (List.range n).map (fun a => (G.2.1 a, clS G S a))
theorem wBd_at (G : GT) (S : List (Nat × Nat)) {n a : Nat} (h : a < n) : (wBd G S n)[a]? = some (G.2.1 a, clS G S a) := by
  unfold wBd
  rw [List.getElem?_map, List.getElem?_range h]; rfl
theorem wBd_succ (G : GT) (S : List (Nat × Nat)) (n : Nat) : wBd G S (n + 1) = wBd G S n ++ [(G.2.1 n, clS G S n)] := by
  unfold wBd
  rw [List.range_succ, List.map_append]; rfl
theorem clS_ne {G : GT} {S : List (Nat × Nat)} {a b j : Nat} (h : b ≠ a) : clS G ((a, j) :: S) b = clS G S b := by
  have hm : ∀ i, ((b, i) ∈ (a, j) :: S) = ((b, i) ∈ S) := fun i => by
    apply propext
    rw [List.mem_cons]
    constructor
    · rintro (e | e)
      · exact absurd (congrArg Prod.fst e) h
      · exact e
    · exact Or.inr
  unfold clS pvS
  simp only [hm]
theorem wBd_set {G : GT} {S : List (Nat × Nat)} {n a j : Nat} {x : va_E} (h1 : clS G ((a, j) :: S) a = x) : (wBd G S n).set a (G.2.1 a, x) = wBd G ((a, j) :: S) n := by
  unfold wBd
  refine mr_set (by rw [h1]) (fun b hb => ?_)
  rw [clS_ne hb]
/-- an object's field set -/
theorem clS_obj {G : GT} {S : List (Nat × Nat)} {a j : Nat} {c : Nat} (hk : (sh a).1 = 10 + c) (hj : (sh a).2.2.getD j 0 ≠ 0 ∧ (sh a).2.2.getD j 0 ≠ 1) : clS G ((a, j) :: S) a = .inr (c, ((List.range (sh a).2.1).map (pvS G S a)).set j (.ref (G.2.1 ((sh a).2.2.getD j 0 - 2)))) := by
  have h1 : ¬ 10 + c < 2 := by omega
  have h2 : ¬ 10 + c = 2 := by omega
  have h3 : ¬ 10 + c < 10 := by omega
  unfold clS
  rw [hk, if_neg h1, if_neg h2, if_neg h3, show 10 + c - 10 = c by omega]
  congr 2
  refine (mr_set ?_ (fun i hi => ?_)).symm
  · unfold pvS
    rw [if_neg hj.1, if_neg hj.2, if_pos List.mem_cons_self]
  · unfold pvS
    have hm : ((a, i) ∈ (a, j) :: S) = ((a, i) ∈ S) := by
      apply propext
      rw [List.mem_cons]
      constructor
      · rintro (e | e)
        · exact absurd (congrArg Prod.snd e) hi
        · exact e
      · exact Or.inr
    simp only [hm]
/-- all set: the world -/
theorem wBd_all {G : GT} {S : List (Nat × Nat)} (h1 : ∀ a, a < NN → 10 ≤ (sh a).1 → ∀ j, j < (sh a).2.1 → (sh a).2.2.getD j 0 ≠ 0 → (sh a).2.2.getD j 0 ≠ 1 → (a, j) ∈ S) (h2 : ∀ a, a < NN → 2 < (sh a).1 → (sh a).1 < 10 → (fun i => if (a, i) ∈ S then some (G.2.1 ((sh a).2.2.getD i 0)) else none) = fun i => some (G.2.1 ((sh a).2.2.getD i 0))) : wBd G S NN = wo G m0 := by
  unfold wBd wo
  refine List.map_congr_left (fun a ha => ?_)
  have ha := List.mem_range.mp ha
  congr 1
  unfold clS cel
  by_cases q1 : (sh a).1 < 2
  · rw [if_pos q1, if_pos q1]; rfl
  · rw [if_neg q1, if_neg q1]
    by_cases q2 : (sh a).1 = 2
    · rw [if_pos q2, if_pos q2]; rfl
    · rw [if_neg q2, if_neg q2]
      by_cases q3 : (sh a).1 < 10
      · rw [if_pos q3, if_pos q3, h2 a ha (by omega) q3]
      · rw [if_neg q3, if_neg q3]
        congr 2
        refine List.map_congr_left (fun j hj => ?_)
        have hj := List.mem_range.mp hj
        unfold pvS fv
        by_cases z0 : (sh a).2.2.getD j 0 = 0
        · rw [if_pos z0, if_pos z0]; rfl
        · rw [if_neg z0, if_neg z0]
          by_cases z1 : (sh a).2.2.getD j 0 = 1
          · rw [if_pos z1, if_pos z1]; rfl
          · rw [if_neg z1, if_neg z1, if_pos (h1 a ha (by omega) j hj z0 z1)]
