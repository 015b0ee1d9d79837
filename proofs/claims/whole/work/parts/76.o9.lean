-- setDeed of the class
section KZ
variable {l : Launch} {G : GT} {d : Nat} {σ : Mm} {Q : Po} {W : Wk}
def Wk.putD (W : Wk) (t h : Nat) (z : Int) : Wk := W.deeds (fun i j => if i = t ∧ j = h then z else W.de i j)
theorem k_setDeed {a : Nat} {x y u : Int32} (t h : Nat) (dd : Int) (hla : lenI a = 115) (hK : Kr σ a W) (ht : t < 12) (hh : h ≤ t) (hd : 0 ≤ dd ∧ dd ≤ 2) (hq : ∀ τ : Mm, (∀ c, c ≠ a → τ.1 c = σ.1 c) → τ.2 = σ.2 → Kr τ a (W.putD t h dd) → Q none τ) (ex : x = jI t := by first | rfl | assumption | (simp only [jlit, jneg, jadd, jsub, jmul]; done) | (simp only [jlit, jneg, jadd, jsub, jmul]; congr 1 <;> omega) | (congr 1 <;> omega)) (ey : y = jI h := by first | rfl | assumption | (simp only [jlit, jneg, jadd, jsub, jmul]; done) | (simp only [jlit, jneg, jadd, jsub, jmul]; congr 1 <;> omega) | (congr 1 <;> omega)) (eu : u = jI dd := by first | rfl | assumption | (simp only [jlit, jneg, jadd, jsub, jmul]; done) | (simp only [jlit, jneg, jadd, jsub, jmul]; congr 1 <;> omega) | (congr 1 <;> omega)) : MW l G d mX0_setDeed [.ref a, .int x, .int y, .int u] σ Q := by
  subst ex; subst ey; subst eu
  obtain ⟨h1, h2, h3, h4, h5⟩ := hK
  have fin : ∀ v : Int32, v = ((σ.1 a (103 + t) &&& (((3 : Int32) <<< ((2 * jI h) &&& 31)) ^^^ (-1))) ||| (jI dd <<< ((2 * jI h) &&& 31))) → Q none (uI σ a (103 + t) v) := by
    intro v hv
    subst hv
    have e : ∀ v i, i ≠ 103 + t → (uI σ a (103 + t) v).1 a i = σ.1 a i := fun v i hi => uI_ne (Or.inr hi)
    have ed : ∀ v, v = ((σ.1 a (103 + t) &&& (((3 : Int32) <<< ((2 * jI h) &&& 31)) ^^^ (-1))) ||| (jI dd <<< ((2 * jI h) &&& 31))) → deS (uI σ a (103 + t) v) a = fun i j => if i = t ∧ j = h then dd else deS σ a i j := by
      intro v hv
      funext i j
      unfold deS
      by_cases q : j ≤ i ∧ i < 12
      · rw [if_pos q, if_pos q]
        by_cases qi : i = t
        · subst qi
          rw [uI_at, hv, set2I _ dd h j (by omega) (by omega) hd]
          by_cases qj : h = j
          · subst qj
            rw [if_pos rfl, if_pos ⟨rfl, rfl⟩, jI_T (by omega)]
          · rw [if_neg qj, if_neg (fun w => qj w.2.symm)]
        · rw [e v _ (by omega), if_neg (fun w => qi w.1)]
      · rw [if_neg q, if_neg q, if_neg (fun w => q ⟨by omega, by omega⟩)]
    have ed := ed _ rfl
    refine hq _ (fun c hc => uI_n hc) rfl ⟨fun k hk => by rw [e _ k (by omega)]; exact h1 k hk, (amS_eq (fun i _ _ => e _ i (by omega))).trans h2, (raS_eq (fun i _ _ => by rw [e _ i (by omega)])).trans h3, by rw [ed, h4]; rfl, fun i q1 q2 => by rw [e _ i (by omega)]; exact h5.1 i q1 q2, fun i q1 q2 => by rw [e _ i (by omega)]; exact h5.2.1 i q1 q2, fun i j q1 q2 => ?_⟩
    rw [ed]
    show 0 ≤ (if i = t ∧ j = h then dd else deS σ a i j) ∧ (if i = t ∧ j = h then dd else deS σ a i j) ≤ 2
    split
    · exact hd
    · exact h5.2.2 i j q1 q2
  refine vX0_setDeed [] 60 ?_
  refine ldI (lenI a) (103 + t) rfl ?_
  refine stI (lenI a) (103 + t) ?_
  exact fin _ rfl
end KZ
