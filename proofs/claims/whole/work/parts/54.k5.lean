-- what was seen; the years
section KY
variable {l : Launch} {G : GT} {d : Nat} {σ : Mm} {Q : Po} {ru am : Nat → Int} {ra : Nat → Nat → Int}
theorem k_bounded {x : Int32} (z : Int) (hz : R31 z) (hq : Q (some (.int (jI (bnd z)))) σ) (ex : x = jI z := by first | rfl | assumption | (simp only [jlit, jneg, jadd, jsub, jmul]; done) | (simp only [jlit, jneg, jadd, jsub, jmul]; congr 1 <;> omega) | (congr 1 <;> omega)) : MW l G (d + 1) mX8_bounded [.int x] σ Q := by
  subst ex
  refine vX8_bounded [] 30 ?_
  have e1 : (if jI z < (999 : Int32) then jI z else (999 : Int32)) = jI (min z 999) := by
    rw [jlit]
    by_cases h : z < 999
    · rw [if_pos ((jlt hz (by decide)).mpr h), show min z 999 = z by omega]
    · rw [if_neg (fun q => h ((jlt hz (by decide)).mp q)), show min z 999 = 999 by omega]
  have e2 : (if (0 : Int32) < jI (min z 999) then jI (min z 999) else (0 : Int32)) = jI (bnd z) := by
    rw [jlit]
    unfold bnd
    by_cases h : 0 < min z 999
    · rw [if_pos ((jlt (by decide) (by omega)).mpr h)]
      congr 1
      split <;> (try split) <;> omega
    · rw [if_neg (fun q => h ((jlt (by decide) (by omega)).mp q))]
      congr 1
      split <;> (try split) <;> omega
  show Q (some (.int (if (0 : Int32) < (if jI z < (999 : Int32) then jI z else (999 : Int32)) then (if jI z < (999 : Int32) then jI z else (999 : Int32)) else (0 : Int32)))) σ
  rw [e1, e2]
  exact hq
theorem k_reckonYears (hR : RC σ ru) (ham0 : ∀ j, 0 ≤ am j) (ham : ∀ j, j < 13 → σ.1 55 (12 + j) = jI (am j) ∧ am j ≤ 9999) (hq : ∀ τ, Fr [16, 17, 18] σ τ → τ.2 = σ.2 → LC τ ru am → Q none τ) : MW l G (d + 2) mX8_reckonYears [.ref 15] σ Q := by
  have hr := hR.1
  have hr' := hr
  unfold RB at hr'
  let I : Mm → Nat → Prop := fun τ t => Fr [16, 17, 18] σ τ ∧ τ.2 = σ.2 ∧ ∀ j : Nat, j < t → τ.1 16 j = jI (zl ru am j) ∧ (1 ≤ j → τ.1 17 j = jI (zp ru am j)) ∧ τ.1 18 j = jI (zpr ru am j)
  have key : ∀ (n t : Nat) (τ : Mm) (v : Int32), (t : Int) + n = ru 1 + 1 → 1 ≤ t → I τ t → v = jI t → Wp l G (d + 2) mX8_reckonYears 32 [(0, .ref 15), (1, .int (jI (ru 1))), (2, .int v)] [] τ Q := by
    intro n
    induction n with
    | zero =>
      intro t τ v ht h1 hI hv
      refine wX8_reckonYears [] 40 ?_
      refine brlt (ru 1) t (fun _ => ?_) (fun h => by omega) rfl hv
      exact hq τ hI.1 hI.2.1 ⟨ham0, fun j hj => hI.2.2 j (by omega)⟩
    | succ n ih =>
      intro t τ v ht h1 hI hv
      subst hv
      push_cast at ht
      obtain ⟨k, rfl⟩ : ∃ k, t = k + 1 := ⟨t - 1, by omega⟩
      obtain ⟨i1, i2, i3⟩ := hI.2.2 k (by omega)
      have hl := zl_in hr ham0 k
      have ha := ham0 (k + 1)
      have ha2 := (ham (k + 1) (by omega)).2
      have hR1 : RC τ ru := hR.fr (hI.1.1 1 (by decide))
      have hs : τ.1 55 (12 + (k + 1)) = jI (am (k + 1)) := by rw [hI.1.1 55 (by decide)]; exact (ham (k + 1) (by omega)).1
      have t85 : Wp l G (d + 2) mX8_reckonYears 85 [(0, .ref 15), (1, .int (jI (ru 1))), (2, .int (jI ((k + 1 : Nat) : Int)))] [] (uI τ 17 (k + 1) (jI (zp ru am (k + 1)))) Q := by
        have j1 : (uI τ 17 (k + 1) (jI (zp ru am (k + 1)))).1 16 k = jI (zl ru am k) := by rw [uI_n (by decide)]; exact i1
        have j2 : (uI τ 17 (k + 1) (jI (zp ru am (k + 1)))).1 17 (k + 1) = jI (zp ru am (k + 1)) := uI_at _ _ _ _
        have e : jI (zl ru am k) - jI (zp ru am (k + 1)) = jI (zl ru am (k + 1)) := by rw [jsub]; rfl
        have hR2 : ∀ v, RC (uI (uI τ 17 (k + 1) (jI (zp ru am (k + 1)))) 16 (k + 1) v) ru := fun v => hR1.fr (by rw [uI_n (by decide), uI_n (by decide)])
        have j3 : (uI (uI τ 17 (k + 1) (jI (zp ru am (k + 1)))) 16 (k + 1) (jI (zl ru am k) - jI (zp ru am (k + 1)))).1 16 (k + 1) = jI (zl ru am (k + 1)) := by rw [uI_at]; exact e
        refine wX8_reckonYears [(32, [0, 1, 2])] 60 ?_
        refine ldI 13 k j1 ?_
        refine ldI 13 (k + 1) j2 ?_
        refine stI 13 (k + 1) ?_
        refine k_priceOf (k + 1) (hR2 _) ham0 j3 (by push_cast; omega) ?_
        refine stI 13 (k + 1) ?_
        refine ih (k + 1 + 1) _ _ (by push_cast; omega) (by omega) ⟨((hI.1.uI (by decide)).uI (by decide)).uI (by decide), hI.2.1, fun j hj => ?_⟩ (by first | rfl | assumption | (simp only [jlit, jneg, jadd, jsub, jmul]; done) | (simp only [jlit, jneg, jadd, jsub, jmul]; congr 1 <;> omega) | (congr 1 <;> omega))
        rw [uI_n (show (16 : Nat) ≠ 18 by decide), uI_n (show (17 : Nat) ≠ 18 by decide), uI_n (show (17 : Nat) ≠ 16 by decide)]
        by_cases ej : j = k + 1
        · subst ej
          exact ⟨j3, fun _ => j2, uI_at _ _ _ _⟩
        · rw [uI_ne (Or.inr ej), uI_n (show (16 : Nat) ≠ 17 by decide), uI_ne (Or.inr ej), uI_ne (Or.inr ej), uI_n (show (18 : Nat) ≠ 16 by decide), uI_n (show (18 : Nat) ≠ 17 by decide)]
          exact hI.2.2 j (by omega)
      refine wX8_reckonYears [(85, [0, 1, 2])] 60 ?_
      refine brlt (ru 1) ((k + 1 : Nat) : Int) (fun q => by omega) (fun _ => ?_)
      refine brlt 12 ((k + 1 : Nat) : Int) (fun q => by omega) (fun _ => ?_)
      refine breq ((k + 1 : Nat) : Int) (ru 1) (fun h7 => ?_) (fun h7 => ?_)
      · refine ldI 13 k i1 ?_
        refine stI 13 (k + 1) ?_
        rw [show zp ru am (k + 1) = zl ru am k from if_pos (by push_cast at h7; exact h7)] at t85
        exact t85
      · refine ldI 13 k i1 ?_
        refine ldI 115 (12 + (k + 1)) hs ?_
        refine stI 13 (k + 1) ?_
        have e : (if jI (am (k + 1)) < jI (zl ru am k) then jI (am (k + 1)) else jI (zl ru am k)) = jI (zp ru am (k + 1)) := by
          rw [show zp ru am (k + 1) = min (zl ru am k) (am (k + 1)) by show (if _ then _ else _) = _; rw [if_neg (by push_cast at h7; exact h7)]]
          by_cases z : am (k + 1) < zl ru am k
          · rw [if_pos ((jlt (by omega) (by omega)).mpr z), show min (zl ru am k) (am (k + 1)) = am (k + 1) by omega]
          · rw [if_neg (fun q => z ((jlt (by omega) (by omega)).mp q)), show min (zl ru am k) (am (k + 1)) = zl ru am k by omega]
        rw [← e] at t85
        exact t85
  have j0 : (uI σ 16 0 (jI (ru 0))).1 16 0 = jI (zl ru am 0) := uI_at _ _ _ _
  refine vX8_reckonYears [(32, [0, 1, 2])] 60 ?_
  refine ldI 14 1 (hR.2 1 (by omega)) ?_
  refine ldI 14 0 (hR.2 0 (by omega)) ?_
  refine stI 13 0 ?_
  refine k_priceOf 0 (hR.fr (uI_n (by decide))) ham0 j0 (by omega) ?_
  refine stI 13 0 ?_
  refine key (ru 1).toNat 1 _ _ (by push_cast; omega) (Nat.le_refl _) ⟨(Fr.rf.uI (by decide)).uI (by decide), rfl, fun j hj => ?_⟩ rfl
  obtain rfl : j = 0 := by omega
  exact ⟨by rw [uI_n (by decide)]; exact j0, fun q => by omega, uI_at _ _ _ _⟩
/-- takesOver: the row is taken; 0 says that nothing was another -/
theorem k_takesOver {a : Nat} {x y : Int32} (p q : Nat) (ha : lenI a = 115) (hne : a ≠ 55) (h1 : p ≤ q) (h2 : q ≤ 115) (hq : ∀ (τ : Mm) (b : Int32), (b = 0 ∨ b = 1) → (b = 0 → ∀ j, p ≤ j → j < q → σ.1 55 j = σ.1 a j) → (b = 1 → ∃ j, p ≤ j ∧ j < q ∧ σ.1 55 j ≠ σ.1 a j) → τ.2 = σ.2 → (∀ c, c ≠ 55 → τ.1 c = σ.1 c) → (∀ j, τ.1 55 j = if p ≤ j ∧ j < q then σ.1 a j else σ.1 55 j) → Q (some (.int b)) τ) (ex : x = jI p := by first | rfl | assumption | (simp only [jlit, jneg, jadd, jsub, jmul]; done) | (simp only [jlit, jneg, jadd, jsub, jmul]; congr 1 <;> omega) | (congr 1 <;> omega)) (ey : y = jI q := by first | rfl | assumption | (simp only [jlit, jneg, jadd, jsub, jmul]; done) | (simp only [jlit, jneg, jadd, jsub, jmul]; congr 1 <;> omega) | (congr 1 <;> omega)) : MW l G d mX8_takesOver [.ref 15, .ref a, .int x, .int y] σ Q := by
  have key : ∀ (n i : Nat) (τ : Mm) (b u : Int32), i + n = q → p ≤ i → u = jI i → (b = 0 ∨ b = 1) → (b = 0 → ∀ j, p ≤ j → j < i → σ.1 55 j = σ.1 a j) → (b = 1 → ∃ j, p ≤ j ∧ j < i ∧ σ.1 55 j ≠ σ.1 a j) → τ.2 = σ.2 → (∀ c, c ≠ 55 → τ.1 c = σ.1 c) → (∀ j, τ.1 55 j = if p ≤ j ∧ j < i then σ.1 a j else σ.1 55 j) → Wp l G d mX8_takesOver 6 [(0, .ref 15), (1, .ref a), (3, .int y), (4, .int b), (5, .int u)] [] τ Q := by
    intro n
    induction n with
    | zero =>
      intro i τ b u hn hp hu hb hb0 hb1 e1 e2 e3
      obtain rfl : i = q := by omega
      refine wX8_takesOver [] 60 ?_
      refine brle i i (fun _ => ?_) (fun z => by omega) ey hu
      exact And.intro hb (hq τ b hb hb0 hb1 e1 e2 e3)
    | succ n ih =>
      intro i τ b u hn hp hu hb hb0 hb1 e1 e2 e3
      subst hu
      have ea : τ.1 a i = σ.1 a i := by rw [e2 a hne]
      have es : τ.1 55 i = σ.1 55 i := by rw [e3 i, if_neg (by omega)]
      have go : ∀ b', (b' = 0 ∨ b' = 1) → (b' = 0 → b = 0 ∧ σ.1 55 i = σ.1 a i) → (b' = 1 → b = 1 ∨ σ.1 55 i ≠ σ.1 a i) → Wp l G d mX8_takesOver 6 [(0, .ref 15), (1, .ref a), (3, .int y), (4, .int b'), (5, .int (jI i + 1))] [] (uI τ 55 i (σ.1 a i)) Q := by
        intro b' hb' hb0' hb1'
        refine ih (i + 1) _ b' _ (by omega) (by omega) (by first | rfl | assumption | (simp only [jlit, jneg, jadd, jsub, jmul]; done) | (simp only [jlit, jneg, jadd, jsub, jmul]; congr 1 <;> omega) | (congr 1 <;> omega)) hb' (fun z j q1 q2 => ?_) (fun z => ?_) e1 (fun c hc => by rw [uI_n hc]; exact e2 c hc) (fun j => ?_)
        · by_cases ej : j = i
          · rw [ej]; exact (hb0' z).2
          · exact hb0 (hb0' z).1 j q1 (by omega)
        · rcases hb1' z with q | q
          · obtain ⟨j, j1, j2, j3⟩ := hb1 q
            exact ⟨j, j1, by omega, j3⟩
          · exact ⟨i, hp, by omega, q⟩
        · by_cases ej : j = i
          · subst ej
            rw [uI_at, if_pos (by omega)]
          · rw [uI_ne (Or.inr ej), e3 j]
            by_cases z : p ≤ j ∧ j < i
            · rw [if_pos z, if_pos (by omega)]
            · rw [if_neg z, if_neg (by omega)]
      refine wX8_takesOver [(6, [0, 1, 3, 4, 5])] 80 ?_
      refine brle q i (fun z => by omega) (fun _ => ?_) ey
      refine brle 115 i (fun z => by omega) (fun _ => ?_)
      refine ldI 115 i es ?_
      refine ldI (lenI a) i ea ?_
      refine And.intro (fun z => ?_) (fun z => ?_)
      · refine ldI (lenI a) i ea ?_
        refine stI 115 i ?_
        rcases hb with hb | hb
        · subst hb
          exact go _ (Or.inl rfl) (fun _ => ⟨rfl, z⟩) (fun z => absurd z (by decide))
        · subst hb
          exact go _ (Or.inr rfl) (fun z => absurd z (by decide)) (fun _ => Or.inl rfl)
      · refine ldI (lenI a) i ea ?_
        refine stI 115 i ?_
        rcases hb with hb | hb
        · subst hb
          exact go _ (Or.inr rfl) (fun z => absurd z (by decide)) (fun _ => Or.inr z)
        · subst hb
          exact go _ (Or.inr rfl) (fun z => absurd z (by decide)) (fun _ => Or.inr z)
  refine vX8_takesOver [(6, [0, 1, 3, 4, 5])] 60 ?_
  exact key (q - p) p σ 0 x (by omega) (Nat.le_refl _) ex (Or.inl rfl) (fun _ j z1 z2 => by omega) (fun z => absurd z (by decide)) rfl (fun _ _ => rfl) (fun j => by rw [if_neg (by omega)])
end KY
