-- reckon, whole
def rS : List Nat := [15, 16, 17, 18, 19, 31, 43, 55, 57, 58, 60, 61, 62] ++ (bS 19 ++ (bS 31 ++ bS 43))
section KRf
variable {l : Launch} {G : GT} {d : Nat} {σ : Mm} {Q : Po} {ru : Nat → Int}
theorem k_reckonX {a : Nat} {x y : Int32} (s m cp : Int) (r o i : Nat) (pol : Option (Nat → Nat → Int)) (hmo : (m = 0 ∧ o = 31 ∧ i = 0 ∧ pol = none) ∨ (m = 1 ∧ o = 43 ∧ i = 1 ∧ pol = some (deS σ a))) (ha : a = 2 ∨ a = 3) (hs : -99 ≤ s ∧ s ≤ 99) (hC : CI σ ru) (hB : CB σ a) (hcp : 0 ≤ cp ∧ cp ≤ 999) (hr2 : r ≤ 2) (h2 : σ.1 a 2 = jI cp) (h3 : σ.1 a 3 = jI r)
    (hq : ∀ τ : Mm, CI τ ru → SS τ a s → τ.2 = σ.2 → (∀ c, c ∉ rS → τ.1 c = σ.1 c) → LC τ ru (amS σ a) → SC τ ru (raS σ a s) → DC τ 55 ru (deS σ a) → (∀ t h : Nat, (t : Int) < ru 1 → h ≤ t → Nt τ o ru (amS σ a) (raS σ a s) pol r cp (zN ru (amS σ a) (raS σ a s) pol r) t h) → (SS σ a s → ∀ c, c ∉ rB o i → τ.1 c = σ.1 c) → (τ.1 o 5 = jI cp ∧ τ.1 o 6 = jI r ∧ ∃ k : Nat, r ≤ k ∧ k ≤ 2 ∧ τ.1 62 i = jI (k : Int) ∧ Ze τ o ru) → Q (some (.ref o)) τ)
    (ex : x = jI s := by first | rfl | assumption | (simp only [jlit, jneg, jadd, jsub, jmul]; done) | (simp only [jlit, jneg, jadd, jsub, jmul]; congr 1 <;> omega) | (congr 1 <;> omega)) (ey : y = jI m := by first | rfl | assumption | (simp only [jlit, jneg, jadd, jsub, jmul]; done) | (simp only [jlit, jneg, jadd, jsub, jmul]; congr 1 <;> omega) | (congr 1 <;> omega)) : MW l G (d + 5) mX8_reckon [.ref 15, .ref a, .int x, .int y] σ Q := by
  have hr := hC.1.1
  have hla : lenI a = 115 := by rcases ha with rfl | rfl <;> decide
  have ham := fun j => (amS_in hB j).1
  have oi : o = 31 ∧ i = 0 ∨ o = 43 ∧ i = 1 := by rcases hmo with ⟨-, q1, q2, -⟩ | ⟨-, q1, q2, -⟩ <;> omega
  -- behind the look
  have main : ∀ τ : Mm, RC τ ru → CJ τ ru → τ.1 15 11 = 0 → Fr [15, 16, 17, 18, 31, 43, 55, 62] σ τ → τ.2 = σ.2 → amS τ 55 = amS σ a → raS τ 55 0 = raS σ a s → deS τ 55 = deS σ a → SS τ a s → (SS σ a s → τ = σ) → ∀ ρ : Mm, (∀ c, c ∉ rB o i → ρ.1 c = τ.1 c) → ρ.2 = τ.2 → (∀ j, j ≠ i → ρ.1 62 j = τ.1 62 j) → Lw ρ i ru (amS σ a) (raS σ a s) pol → Kn ρ o ru (amS σ a) (raS σ a s) pol → (∀ t h : Nat, (t : Int) < ru 1 → h ≤ t → Nt ρ o ru (amS σ a) (raS σ a s) pol r cp (zN ru (amS σ a) (raS σ a s) pol r) t h) → (ρ.1 o 5 = jI cp ∧ ρ.1 o 6 = jI r ∧ ∃ k : Nat, r ≤ k ∧ k ≤ 2 ∧ ρ.1 62 i = jI (k : Int) ∧ Ze ρ o ru) → Q (some (.ref o)) ρ := by
    intro τ hR hJ h15 hF e2 ea er ed hS hE ρ f1 f2 f3 f4 f5 f6 f7
    obtain ⟨j1, j2, j3, j4, j5, j6⟩ := hJ
    rw [ea] at j2
    rw [ea, er] at j3 j5
    rw [ea, er, ed] at j4 j6
    have g : ∀ c, c = 1 ∨ c = 15 ∨ c = 16 ∨ c = 17 ∨ c = 18 ∨ c = 55 ∨ c = a → ρ.1 c = τ.1 c := by
      intro c hc
      refine f1 c ?_
      unfold rB bS
      simp
      omega
    have g55 := g 55 (by simp)
    have ga := g a (by simp)
    have xa : amS ρ 55 = amS τ 55 := amS_eq (fun j _ _ => by rw [g55])
    have xr : raS ρ 55 0 = raS τ 55 0 := raS_eq (fun j _ _ => by rw [g55])
    have xd : deS ρ 55 = deS τ 55 := deS_eq (fun j _ _ => by rw [g55])
    have hB2 : CB ρ 55 := by
      refine ⟨fun j => ?_, fun j => ?_, fun t h => ?_⟩
      · rw [g55]; exact j1.1 j
      · rw [g55]; exact j1.2.1 j
      · rw [xd]; exact j1.2.2 t h
    have hL2 : LC ρ ru (amS σ a) := j2.fr (g 16 (by simp)) (g 17 (by simp)) (g 18 (by simp))
    have hC2 : CJ ρ ru := by
      unfold CJ
      rw [xa, xr, xd, ea, er, ed]
      have nb : ∀ o' c, (o' = 31 ∨ o' = 43) → o' ≠ o → (c = o' ∨ c ∈ bS o') → ρ.1 c = τ.1 c := by
        intro o' c q1 q2 q3
        refine f1 c ?_
        unfold bS at q3
        unfold rB bS
        simp at q3 ⊢
        omega
      have nl : ∀ i' j, i' ≠ i → i' < 2 → j < 2 → ρ.1 (57 + 3 * i' + j) = τ.1 (57 + 3 * i' + j) := by
        intro i' j q1 q2 q3
        refine f1 _ ?_
        unfold rB bS
        simp
        omega
      rcases hmo with ⟨-, rfl, rfl, rfl⟩ | ⟨-, rfl, rfl, rfl⟩
      · exact ⟨hB2, hL2, f4, j4.fr (f3 1 (by decide)) (fun j hj => nl 1 j (by decide) (by decide) hj), f5, j6.fr hr (nb 43 43 (Or.inr rfl) (by decide) (Or.inl rfl)) (f3 1 (by decide)) (fun c hc => nb 43 c (Or.inr rfl) (by decide) (Or.inr hc))⟩
      · exact ⟨hB2, hL2, j3.fr (f3 0 (by decide)) (fun j hj => nl 0 j (by decide) (by decide) hj), f4, j5.fr hr (nb 31 31 (Or.inl rfl) (by decide) (Or.inl rfl)) (f3 0 (by decide)) (fun c hc => nb 31 c (Or.inl rfl) (by decide) (Or.inr hc)), f5⟩
    have p15 : ρ.1 15 11 = 0 := by rw [g 15 (by simp)]; exact h15
    refine hq ρ ⟨hR.fr (g 1 (by simp)), Or.inl p15, fun _ => hC2⟩ ⟨p15, ?_, ?_, ?_⟩ (f2.trans e2) (fun c hc => ?_) hL2 ?_ ?_ f6 (fun q c hc => by rw [f1 c hc, hE q]) f7
    · rw [g55, ga]; exact hS.2.1
    · rw [g55, ga]; exact hS.2.2.1
    · rw [g55, ga]; exact hS.2.2.2
    · unfold rS at hc
      rw [f1 c, hF.1 c]
      · intro q
        apply hc
        simp at q ⊢
        omega
      · intro q
        apply hc
        unfold rB at q
        simp only [List.mem_append] at q ⊢
        rcases q with q | q | q
        · simp at q ⊢
          omega
        · exact Or.inr (Or.inl q)
        · rcases oi with ⟨rfl, -⟩ | ⟨rfl, -⟩
          · exact Or.inr (Or.inr (Or.inl q))
          · exact Or.inr (Or.inr (Or.inr q))
    · rw [← er, ← xr]
      exact hB2.SC hr
    · rw [← ed, ← xd]
      exact hB2.DC hr
  have hma : m = 0 ∧ o = 31 ∨ m = 1 ∧ o = 43 := by rcases hmo with ⟨q1, q2, -⟩ | ⟨q1, q2, -⟩ <;> omega
  refine vX8_reckon [(65, [0, 3, 4, 5, 6])] 60 ?_
  refine k_look s ha hs hC hB (fun τ hR hJ h15 hF e2 ea er ed hS hE => ?_) ex
  have hSC : SC τ ru (raS σ a s) := by rw [← er]; exact hJ.1.SC hr
  have hDC : DC τ 55 ru (deS σ a) := by rw [← ed]; exact hJ.1.DC hr
  have hLC : LC τ ru (amS σ a) := by rw [← ea]; exact hJ.2.1
  have ta : τ.1 a = σ.1 a := hF.1 a (by simp; omega)
  have hLw : Lw τ i ru (amS σ a) (raS σ a s) pol := by
    obtain ⟨j1, j2, j3, j4, j5, j6⟩ := hJ
    rw [ea, er] at j3
    rw [ea, er, ed] at j4
    rcases hmo with ⟨-, -, rfl, rfl⟩ | ⟨-, -, rfl, rfl⟩
    · exact j3
    · exact j4
  have hKn : Kn τ o ru (amS σ a) (raS σ a s) pol := by
    obtain ⟨j1, j2, j3, j4, j5, j6⟩ := hJ
    rw [ea, er] at j5
    rw [ea, er, ed] at j6
    rcases hmo with ⟨-, rfl, -, rfl⟩ | ⟨-, rfl, -, rfl⟩
    · exact j5
    · exact j6
  have k65 : Wp l G (d + 5) mX8_reckon 65 [(0, .ref 15), (3, .int y), (4, .ref o), (5, .int (jI cp)), (6, .int (jI r))] [] τ Q := by
    refine k_reckonB (a := a) (amS σ a) (raS σ a s) (deS σ a) m cp r o i pol hmo hR hLC hSC hDC hLw hcp hr2 (fun ρ f1 f2 f3 f4 f5 f6 f7 => ?_) ey
    refine main τ hR hJ h15 hF e2 ea er ed hS hE ρ f1 f2 f3 f4 (fun _ r' cp' q1 q2 q3 q4 q5 => ?_) f6 ⟨f5.2.1, f5.2.2, f7⟩
    have z1 : cp' = cp := ((jeq (by omega) (by omega)).mp (f5.2.1.symm.trans q4)).symm
    have z2 : (r : Int) = r' := (jeq (by omega) (by omega)).mp (f5.2.2.symm.trans q5)
    have z2 : r' = r := by omega
    subst z1; subst z2
    have el : lvi o = i := by
      unfold lvi
      rcases oi with ⟨q1, q2⟩ | ⟨q1, q2⟩
      · rw [if_neg (by omega), q2]
      · rw [if_pos q1, q2]
    rw [el]
    exact ⟨f7, f6⟩
  have kn : τ.1 o 7 ≠ 0 → τ.1 o 5 = jI cp → τ.1 o 6 = jI r → Q (some (.ref o)) τ := by
    intro q1 q2 q3
    have hk9 := hKn q1 r cp hr2 hcp.1 hcp.2 q2 q3
    have el9 : lvi o = i := by
      unfold lvi
      rcases oi with ⟨q1, q2⟩ | ⟨q1, q2⟩
      · rw [if_neg (by omega), q2]
      · rw [if_pos q1, q2]
    exact main τ hR hJ h15 hF e2 ea er ed hS hE τ (fun _ _ => rfl) rfl (fun _ _ => rfl) hLw hKn hk9.2 ⟨q2, q3, by rw [← el9]; exact hk9.1⟩
  have ta2 : τ.1 a 2 = jI cp := by rw [ta]; exact h2
  have ta3 : τ.1 a 3 = jI r := by rw [ta]; exact h3
  rcases hma with ⟨rfl, rfl⟩ | ⟨rfl, rfl⟩
  · refine breq 0 1 (fun q => absurd q (by decide)) (fun _ => ?_) ey
    refine ldI (lenI a) 2 ta2 ?_
    refine ldI (lenI a) 3 ta3 ?_
    refine And.intro (fun _ => ?_) (fun z7 => ?_)
    · exact k65
    · refine And.intro (fun z5 => ?_) (fun _ => ?_)
      · refine And.intro (fun z6 => ?_) (fun _ => ?_)
        · exact kn z7 z5 z6
        · exact k65
      · exact k65
  · refine breq 1 1 (fun _ => ?_) (fun q => absurd rfl q) ey
    refine ldI (lenI a) 2 ta2 ?_
    refine ldI (lenI a) 3 ta3 ?_
    refine And.intro (fun _ => ?_) (fun z7 => ?_)
    · exact k65
    · refine And.intro (fun z5 => ?_) (fun _ => ?_)
      · refine And.intro (fun z6 => ?_) (fun _ => ?_)
        · exact kn z7 z5 z6
        · exact k65
      · exact k65
theorem k_reckon {a : Nat} {x y : Int32} (s m cp : Int) (r o i : Nat) (pol : Option (Nat → Nat → Int)) (hmo : (m = 0 ∧ o = 31 ∧ i = 0 ∧ pol = none) ∨ (m = 1 ∧ o = 43 ∧ i = 1 ∧ pol = some (deS σ a))) (ha : a = 2 ∨ a = 3) (hs : -99 ≤ s ∧ s ≤ 99) (hC : CI σ ru) (hB : CB σ a) (hcp : 0 ≤ cp ∧ cp ≤ 999) (hr2 : r ≤ 2) (h2 : σ.1 a 2 = jI cp) (h3 : σ.1 a 3 = jI r)
    (hq : ∀ τ : Mm, CI τ ru → SS τ a s → τ.2 = σ.2 → (∀ c, c ∉ rS → τ.1 c = σ.1 c) → LC τ ru (amS σ a) → SC τ ru (raS σ a s) → DC τ 55 ru (deS σ a) → (∀ t h : Nat, (t : Int) < ru 1 → h ≤ t → Nt τ o ru (amS σ a) (raS σ a s) pol r cp (zN ru (amS σ a) (raS σ a s) pol r) t h) → (SS σ a s → ∀ c, c ∉ rB o i → τ.1 c = σ.1 c) → Q (some (.ref o)) τ)
    (ex : x = jI s := by first | rfl | assumption | (simp only [jlit, jneg, jadd, jsub, jmul]; done) | (simp only [jlit, jneg, jadd, jsub, jmul]; congr 1 <;> omega) | (congr 1 <;> omega)) (ey : y = jI m := by first | rfl | assumption | (simp only [jlit, jneg, jadd, jsub, jmul]; done) | (simp only [jlit, jneg, jadd, jsub, jmul]; congr 1 <;> omega) | (congr 1 <;> omega)) : MW l G (d + 5) mX8_reckon [.ref 15, .ref a, .int x, .int y] σ Q := k_reckonX s m cp r o i pol hmo ha hs hC hB hcp hr2 h2 h3 (fun τ a1 a2 a3 a4 a5 a6 a7 a8 a9 _ => hq τ a1 a2 a3 a4 a5 a6 a7 a8 a9) ex ey
end KRf
