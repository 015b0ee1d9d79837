-- signs of texts: length, charAt, spotOf
abbrev St5 (a : Nat) : Prop := a = 210 ∨ a = 211 ∨ a = 212 ∨ a = 213 ∨ a = 214
section St2
variable {l : Launch} {G : GT} {d : Nat} {σ : Mm} {Q : Po}
theorem s_length {a : Nat} (hG : GX G) (ha : St5 a) (hq : Q (some (.int (jI ((stc (a + 10)).length : Int)))) σ) : MW l G (d + 1) mJ0_length_8abf5 [.ref a] σ Q := by
  rcases ha with rfl | rfl | rfl | rfl | rfl
  all_goals
    refine vJ0_length_8abf5 [] 40 ?_
    refine And.intro hG (And.intro hG ?_)
    refine And.intro hG ?_
    refine s_coder hG (by omega) ?_
    exact hq
theorem stc_ch (a : Nat) (ha : a = 220 ∨ a = 221 ∨ a = 222 ∨ a = 223 ∨ a = 224) (i : Nat) (hi : i < (stc a).length) : (((stc a).getD i 0 &&& 255).toUInt32 % 65536).toInt32 = (stc a).getD i 0 ∧ narrow .char (.int ((stc a).getD i 0)) = .int ((stc a).getD i 0) := by
  have key : ∀ L : List Int32, (∀ x ∈ L, ((x &&& 255).toUInt32 % 65536).toInt32 = x ∧ narrow .char (.int x) = .int x) → ∀ i, i < L.length → (((L.getD i 0) &&& 255).toUInt32 % 65536).toInt32 = L.getD i 0 ∧ narrow .char (.int (L.getD i 0)) = .int (L.getD i 0) := by
    intro L h i hi
    have e : L.getD i 0 = L[i] := by rw [List.getD_eq_getElem?_getD, List.getElem?_eq_getElem hi]; rfl
    rw [e]
    exact h _ (List.getElem_mem hi)
  refine key (stc a) ?_ i hi
  rcases ha with rfl | rfl | rfl | rfl | rfl
  all_goals
    repeat refine List.forall_mem_cons.mpr ⟨⟨by decide, rfl⟩, ?_⟩
    exact fun _ h => absurd h List.not_mem_nil
theorem s_charAt1 {b : Nat} {x : Int32} (hG : GX G) (hb : b = 220 ∨ b = 221 ∨ b = 222 ∨ b = 223 ∨ b = 224) (i : Nat) (hi : i < (stc b).length) (hq : Q (some (.int ((stc b).getD i 0))) σ) (ex : x = jI (i : Int) := by first | rfl | assumption | (simp only [jlit, jneg, jadd, jsub, jmul]; done) | (simp only [jlit, jneg, jadd, jsub, jmul]; congr 1 <;> omega) | (congr 1 <;> omega)) : MW l G (d + 2) mJ1_charAt_3b067 [.ref b, .int x] σ Q := by
  have hc := stc_ch b hb i hi
  rcases hb with rfl | rfl | rfl | rfl | rfl
  all_goals
    refine vJ1_charAt_3b067 [] 40 ?_
    refine And.intro hG ?_
    refine s_check hG (i : Int) ((stc _).length : Int) ⟨by omega, by exact_mod_cast hi⟩ (by decide) ?_ ex rfl
    refine And.intro hG ?_
    refine ldI (f := fun k => (stc _).getD k 0) _ i rfl ?_ hi ex (by decide)
    refine ⟨?_, ?_⟩
    · show narrow .char (.int ((((stc _).getD i 0) &&& 255).toUInt32 % 65536).toInt32) = .int ((((stc _).getD i 0) &&& 255).toUInt32 % 65536).toInt32
      rw [hc.1]
      exact hc.2
    · rw [← hc.1] at hq
      exact hq
theorem s_charAt {a : Nat} {x : Int32} (hG : GX G) (ha : St5 a) (i : Nat) (hi : i < (stc (a + 10)).length) (hq : Q (some (.int ((stc (a + 10)).getD i 0))) σ) (ex : x = jI (i : Int) := by first | rfl | assumption | (simp only [jlit, jneg, jadd, jsub, jmul]; done) | (simp only [jlit, jneg, jadd, jsub, jmul]; congr 1 <;> omega) | (congr 1 <;> omega)) : MW l G (d + 3) mJ0_charAt_5068e [.ref a, .int x] σ Q := by
  have hc := stc_ch (a + 10) (by unfold St5 at ha; omega) i hi
  rcases ha with rfl | rfl | rfl | rfl | rfl
  all_goals
    refine vJ0_charAt_5068e [(16, [0, 1])] 40 ?_
    refine And.intro hG ?_
    refine s_latin hG (by omega) ?_
    refine And.intro (fun q => absurd q (by decide)) (fun _ => ?_)
    refine And.intro hG ?_
    refine s_charAt1 hG (by omega) i hi ?_ ex
    exact ⟨hc.2, hq⟩
end St2
