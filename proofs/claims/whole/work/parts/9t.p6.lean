-- spotOf of the reference
section Sp
variable {l : Launch} {G : GT} {d : Nat} {σ : Mm} {Q : Po}
theorem c_spotOf {a : Nat} {z : Int32} (hG : GX G) (ha : St5 a) (hq : Q (some (.int (jI (plc (stc (a + 10)) z (stc (a + 10)).length 0)))) σ) : MW l G (d + 4) mX12_spotOf [.ref a, .int z] σ Q := by
  have hn : (stc (a + 10)).length < 1000 := by
    rcases ha with rfl | rfl | rfl | rfl | rfl <;> decide
  have go : ∀ (m i : Nat) (u : Int32), i + m = (stc (a + 10)).length → u = jI (i : Int) → Q (some (.int (jI (plc (stc (a + 10)) z m i)))) σ → Wp l G (d + 4) mX12_spotOf 2 [(0, .ref a), (1, .int z), (2, .int u)] [] σ Q := by
    intro m
    induction m with
    | zero =>
      intro i u hm hu hQ
      rcases ha with rfl | rfl | rfl | rfl | rfl
      all_goals
        refine wX12_spotOf [] 40 ?_
        refine And.intro hG ?_
        refine s_length hG (by omega) ?_
        exact brle _ (i : Int) (fun _ => hQ) (fun w => by omega) (hx := rfl) (hy := hu)
    | succ m ih =>
      intro i u hm hu hQ
      unfold plc at hQ
      have fin : ∀ v : Int32, (stc (a + 10)).getD i 0 = v → (v = z → Q (some (.int u)) σ) ∧ (¬ v = z → Wp l G (d + 4) mX12_spotOf 2 [(0, .ref a), (1, .int z), (2, .int (u + 1))] [] σ Q) := by
        intro v hv
        rw [hv] at hQ
        refine ⟨fun w => ?_, fun w => ?_⟩
        · rw [if_pos w, ← hu] at hQ
          exact hQ
        · rw [if_neg w] at hQ
          exact ih (i + 1) _ (by omega) (by rw [hu]; simp only [jlit, jadd]; congr 1) hQ
      rcases ha with rfl | rfl | rfl | rfl | rfl
      all_goals
        refine wX12_spotOf [(2, [0, 1, 2])] 40 ?_
        refine And.intro hG ?_
        refine s_length hG (by omega) ?_
        refine brle _ (i : Int) (fun w => by omega) (fun _ => ?_) (hx := rfl) (hy := hu)
        refine And.intro hG ?_
        refine s_charAt hG (by omega) i (by omega) ?_ hu
        exact fin _ rfl
  rcases ha with rfl | rfl | rfl | rfl | rfl
  all_goals
    refine vX12_spotOf [(2, [0, 1, 2])] 40 ?_
    exact go _ 0 _ (by omega) rfl hq
end Sp
