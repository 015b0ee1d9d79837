-- the log: notes of the reference
def Lp (L : Nat → Nat → Int32) (E : Nat) (a b c : Int32) : Nat → Nat → Int32 := fun p q => if p = E then (if q = 0 then a else if q = 1 then b else c) else L p q
section MNo
variable {l : Launch} {G : GT} {d : Nat} {σ : Mm} {Q : Po} {ru : Nat → Int} {W : Wk} {E : Nat} {L : Nat → Nat → Int32}
theorem c_notes {x : Int32} (hr : RB ru) (hT : Rw (σ.1 108) ru W E L)
    (hq : ∀ (τ : Mm), (∀ c, c ≠ 108 → τ.1 c = σ.1 c) → τ.2 = σ.2 → (∀ k, k < 313 → τ.1 108 k = σ.1 108 k) → Rw (τ.1 108) ru W (E + 1) (Lp L E x (σ.1 98 34) (σ.1 108 7)) → Q none τ) : MW l G d mX12_notes [.ref 98, .int x] σ Q := by
  obtain ⟨h1, h2, h3⟩ := hT
  have go : ∀ (ρ : Mm) (n : Nat), n = min 59 E → (∀ c, c ≠ 108 → ρ.1 c = σ.1 c) → ρ.2 = σ.2 → (∀ k, k < 313 → ρ.1 108 k = σ.1 108 k) → ρ.1 108 313 = jI (n : Int) → (∀ i q, i < n → q < 3 → ρ.1 108 (314 + (3 * i + q)) = L (E - n + i) q) → Wp l G d mX12_notes 62 [(0, .ref 98), (1, .int x)] [] ρ Q := by
    intro ρ n hn e1 e2 e3 e4 e5
    refine wX12_notes [] 80 ?_
    refine ldI 494 313 e4 ?_
    refine stI 494 (314 + 3 * n) ?_
    refine stI 494 (314 + 3 * n + 1) ?_
    refine ldI 494 7 (show _ = σ.1 108 7 by rw [uI_ne (Or.inr (by omega)), uI_ne (Or.inr (by omega))]; exact e3 7 (by omega)) ?_
    refine stI 494 (314 + 3 * n + 2) ?_
    refine ldI 494 313 (show _ = jI (n : Int) by rw [uI_ne (Or.inr (by omega)), uI_ne (Or.inr (by omega)), uI_ne (Or.inr (by omega))]; exact e4) ?_
    refine stI 494 313 ?_
    have e34 : (uI ρ 108 (314 + 3 * n) x).1 98 34 = σ.1 98 34 := by rw [uI_n (by decide), e1 98 (by decide)]
    refine hq _ (fun c hc => by rw [uI_n hc, uI_n hc, uI_n hc, uI_n hc]; exact e1 c hc) e2 (fun k hk => by rw [uI_ne (Or.inr (by omega)), uI_ne (Or.inr (by omega)), uI_ne (Or.inr (by omega)), uI_ne (Or.inr (by omega))]; exact e3 k hk) ⟨h1.fr (fun k hk => ?_) hr, ?_, fun i q hi hq => ?_⟩
    · change (uI (uI (uI (uI ρ 108 (314 + 3 * n) x) 108 (314 + 3 * n + 1) _) 108 (314 + 3 * n + 2) _) 108 313 _).1 108 k = σ.1 108 k
      rw [uI_ne (Or.inr (by omega)), uI_ne (Or.inr (by omega)), uI_ne (Or.inr (by omega)), uI_ne (Or.inr (by omega))]; exact e3 k hk
    · rw [uI_at, show min 60 (E + 1) = n + 1 by omega]; first | rfl | assumption | (simp only [jlit, jneg, jadd, jsub, jmul]; done) | (simp only [jlit, jneg, jadd, jsub, jmul]; congr 1 <;> omega) | (congr 1 <;> omega)
    · rw [uI_ne (Or.inr (by omega)), e34]
      unfold Lp
      by_cases q0 : i = n
      · subst q0
        rw [if_pos (by omega)]
        by_cases q2 : q = 2
        · subst q2
          rw [show 314 + (3 * i + 2) = 314 + 3 * i + 2 by omega, uI_at, if_neg (by omega), if_neg (by omega)]
        · rw [uI_ne (Or.inr (by omega))]
          by_cases q1 : q = 1
          · subst q1
            rw [show 314 + (3 * i + 1) = 314 + 3 * i + 1 by omega, uI_at, if_neg (by omega), if_pos rfl]
          · obtain rfl : q = 0 := by omega
            rw [uI_ne (Or.inr (by omega)), show 314 + (3 * i + 0) = 314 + 3 * i by omega, uI_at, if_pos rfl]
      · rw [if_neg (by omega), uI_ne (Or.inr (by omega)), uI_ne (Or.inr (by omega)), uI_ne (Or.inr (by omega)), e5 i q (by omega) hq, show E + 1 - min 60 (E + 1) + i = E - n + i by omega]
  refine vX12_notes [(62, [0, 1]), (15, [0, 1, 2])] 80 ?_
  refine ldI 494 313 h2 ?_
  refine breq ((min 60 E : Nat) : Int) 60 (fun q => ?_) (fun q => ?_)
  · have key : ∀ (m i : Nat) (τ : Mm) (u : Int32), i + m = 178 → 1 ≤ i → u = jI (i : Int) → τ.2 = σ.2 → (∀ c, c ≠ 108 → τ.1 c = σ.1 c) → (∀ j, τ.1 108 j = if 314 ≤ j ∧ j < 313 + i then σ.1 108 (j + 3) else σ.1 108 j) → Wp l G d mX12_notes 15 [(0, .ref 98), (1, .int x), (2, .int u)] [] τ Q := by
      intro m
      induction m with
      | zero =>
        intro i τ u hn hi hu e1 e2 e3
        obtain rfl : i = 178 := by omega
        refine wX12_notes [(62, [0, 1])] 40 ?_
        refine brlt 177 ((178 : Nat) : Int) (fun _ => ?_) (fun z => by omega) rfl hu
        refine ldI 494 313 (show _ = jI 60 by rw [e3, if_neg (by omega), h2]; congr 1) ?_
        refine stI 494 313 ?_
        refine go _ 59 (by omega) (fun c hc => by rw [uI_n hc]; exact e2 c hc) e1 (fun k hk => by rw [uI_ne (Or.inr (by omega)), e3, if_neg (by omega)]) (by rw [uI_at]; rfl) (fun i q hi hq => ?_)
        rw [uI_ne (Or.inr (by omega)), e3, if_pos (by omega), show 314 + (3 * i + q) + 3 = 314 + (3 * (i + 1) + q) by omega, h3 (i + 1) q (by omega) hq]
        congr 1
        omega
      | succ m ih =>
        intro i τ u hn hi hu e1 e2 e3
        subst hu
        refine wX12_notes [(15, [0, 1, 2])] 40 ?_
        refine brlt 177 (i : Int) (fun z => by omega) (fun _ => ?_)
        refine ldI 494 (313 + i + 3) (show _ = σ.1 108 (313 + i + 3) by rw [e3, if_neg (by omega)]) ?_
        refine stI 494 (313 + i) ?_
        refine ih (i + 1) _ _ (by omega) (by omega) (by first | rfl | assumption | (simp only [jlit, jneg, jadd, jsub, jmul]; done) | (simp only [jlit, jneg, jadd, jsub, jmul]; congr 1 <;> omega) | (congr 1 <;> omega)) e1 (fun c hc => by rw [uI_n hc]; exact e2 c hc) (fun j => ?_)
        by_cases ej : j = 313 + i
        · subst ej
          rw [uI_at, if_pos (by omega)]
        · rw [uI_ne (Or.inr ej), e3 j]
          by_cases z : 314 ≤ j ∧ j < 313 + i
          · rw [if_pos z, if_pos (by omega)]
          · rw [if_neg z, if_neg (by omega)]
    exact key 177 1 σ _ rfl (by omega) rfl rfl (fun _ _ => rfl) (fun j => by rw [if_neg (by omega)])
  · refine go σ (min 60 E) (by omega) (fun _ _ => rfl) rfl (fun _ _ => rfl) h2 h3
end MNo
