-- the world made: its cells are the beginning's
theorem arr_eq {cA : ClassId} {n : Nat} {f g : Nat → Value} (h : ∀ i, i < n → f i = g i) : arrV cA n f = arrV cA n g := by
  unfold arrV
  congr 1
  apply Array.ext
  · simp
  · intro j h1 h2
    simp only [Array.size_ofFn] at h1
    simp only [Array.getElem_ofFn]
    exact h j h1
theorem wBd_wo {G : GT} {S : List (Nat × Nat)} {H : Heap} (h1 : ∀ a, a < NN → 10 ≤ (sh a).1 → ∀ j, j < (sh a).2.1 → (sh a).2.2.getD j 0 = 0 ∨ (sh a).2.2.getD j 0 = 1 ∨ (a, j) ∈ S) (h2 : ∀ a, a < NN → 2 < (sh a).1 → (sh a).1 < 10 → ∀ i, i < (sh a).2.1 → (a, i) ∈ S) (hP : va_P G.1 vwCl (wBd G S NN) H) : va_P G.1 vwCl (wo G m0) H := by
  intro k q hq
  have hk : k < NN := by
    have := (List.getElem?_eq_some_iff.mp hq).1
    simpa [wo] using this
  rw [wo_at G m0 hk] at hq
  cases hq
  have hp := hP k _ (wBd_at G S hk)
  by_cases q1 : (sh k).1 < 2
  · have e1 : clS G S k = cel G m0 k := by unfold clS cel; rw [if_pos q1, if_pos q1]; rfl
    rw [e1] at hp
    exact hp
  by_cases q2 : (sh k).1 = 2
  · have e1 : clS G S k = cel G m0 k := by unfold clS cel; rw [if_neg q1, if_neg q1, if_pos q2, if_pos q2]; rfl
    rw [e1] at hp
    exact hp
  by_cases q3 : (sh k).1 < 10
  · have e1 : clS G S k = .inl (G.2.2.1 (sh k).1, (sh k).2.1, .inr (.inr (.inr (.inr (fun i => if (k, i) ∈ S then some (G.2.1 ((sh k).2.2.getD i 0)) else none))))) := by unfold clS; rw [if_neg q1, if_neg q2, if_pos q3]
    have e2 : cel G m0 k = .inl (G.2.2.1 (sh k).1, (sh k).2.1, .inr (.inr (.inr (.inr (fun i => some (G.2.1 ((sh k).2.2.getD i 0))))))) := by unfold cel; rw [if_neg q1, if_neg q2, if_pos q3]
    rw [e1] at hp
    rw [e2]
    have hp : H[G.2.1 k]? = some (vp_cell (G.2.2.1 (sh k).1) ((sh k).2.1, .inr (.inr (.inr (.inr (fun i => if (k, i) ∈ S then some (G.2.1 ((sh k).2.2.getD i 0)) else none)))))) := hp
    show H[G.2.1 k]? = some (vp_cell (G.2.2.1 (sh k).1) ((sh k).2.1, .inr (.inr (.inr (.inr (fun i => some (G.2.1 ((sh k).2.2.getD i 0))))))))
    rw [hp, vp_cell_q, vp_cell_q]
    congr 1
    refine arr_eq (fun i hi => ?_)
    rw [if_pos (h2 k hk (by omega) q3 i hi)]
  · have e1 : clS G S k = cel G m0 k := by
      unfold clS cel
      rw [if_neg q1, if_neg q1, if_neg q2, if_neg q2, if_neg q3, if_neg q3]
      congr 2
      refine List.map_congr_left (fun j hj => ?_)
      have hj := List.mem_range.mp hj
      unfold pvS fv
      by_cases z0 : (sh k).2.2.getD j 0 = 0
      · rw [if_pos z0, if_pos z0]; rfl
      · rw [if_neg z0, if_neg z0]
        by_cases z1 : (sh k).2.2.getD j 0 = 1
        · rw [if_pos z1, if_pos z1]; rfl
        · rw [if_neg z1, if_neg z1, if_pos ?_]
          rcases h1 k hk (by omega) j hj with z | z | z
          · exact absurd z z0
          · exact absurd z z1
          · exact z
    rw [e1] at hp
    exact hp
