-- what is kept: the row that was seen, levels, known tables
def amS (σ : Mm) (a : Nat) (j : Nat) : Int := if j < 13 then (σ.1 a (12 + j)).toInt else 0
def raS (σ : Mm) (a : Nat) (s : Int) (t h : Nat) : Int := if h ≤ t ∧ t < 12 then bnd ((σ.1 a (25 + nd t h)).toInt + s) else 0
def deS (σ : Mm) (a : Nat) (t h : Nat) : Int := if h ≤ t ∧ t < 12 then ((σ.1 a (103 + t) >>> ((2 * jI h) &&& 31)) &&& 3).toInt else 0
/-- cells in their bounds -/
def CB (σ : Mm) (a : Nat) : Prop := (∀ j, 12 ≤ j → j < 25 → 0 ≤ (σ.1 a j).toInt ∧ (σ.1 a j).toInt ≤ 9999) ∧ (∀ j, 25 ≤ j → j < 103 → 0 ≤ (σ.1 a j).toInt ∧ (σ.1 a j).toInt ≤ 999) ∧ (∀ t h, h ≤ t → t < 12 → 0 ≤ deS σ a t h ∧ deS σ a t h ≤ 2)
theorem amS_eq {σ τ : Mm} {a b : Nat} (h : ∀ j, 12 ≤ j → j < 25 → τ.1 b j = σ.1 a j) : amS τ b = amS σ a := by
  funext j
  unfold amS
  split
  · rw [h _ (by omega) (by omega)]
  · rfl
theorem raS_eq {σ τ : Mm} {a b : Nat} {s s' : Int} (h : ∀ j, 25 ≤ j → j < 103 → bnd ((τ.1 b j).toInt + s') = bnd ((σ.1 a j).toInt + s)) : raS τ b s' = raS σ a s := by
  funext t k
  unfold raS
  split
  · next q =>
    have := nd_lt2 q.2 q.1
    exact h _ (by omega) (by omega)
  · rfl
theorem deS_eq {σ τ : Mm} {a b : Nat} (h : ∀ j, 103 ≤ j → j < 115 → τ.1 b j = σ.1 a j) : deS τ b = deS σ a := by
  funext t k
  unfold deS
  split
  · rw [h _ (by omega) (by omega)]
  · rfl
theorem amS_in {σ : Mm} {a : Nat} (h : CB σ a) (j : Nat) : 0 ≤ amS σ a j ∧ amS σ a j ≤ 9999 := by
  unfold amS
  split
  · exact h.1 _ (by omega) (by omega)
  · omega
theorem raS_in (σ : Mm) (a : Nat) (s : Int) (t h : Nat) : 0 ≤ raS σ a s t h ∧ raS σ a s t h ≤ 999 := by
  unfold raS
  split
  · exact bnd_in _
  · omega
theorem CB.SC {σ : Mm} {ru : Nat → Int} (h : CB σ 55) (hr : RB ru) : SC σ ru (raS σ 55 0) := by
  intro t k h1 h2
  refine ⟨?_, raS_in _ _ _ _ _⟩
  have h12 : ru 1 ≤ 12 := by unfold RB at hr; omega
  have := nd_lt2 (t := t) (h := k) (by omega) h2
  have hb := h.2.1 (25 + nd t k) (by omega) (by omega)
  unfold raS
  rw [if_pos ⟨h2, by omega⟩, Int.add_zero, bnd_id hb.1 hb.2]
  exact (jI_of _).symm
theorem CB.DC {σ : Mm} {a : Nat} {ru : Nat → Int} (h : CB σ a) (hr : RB ru) : DC σ a ru (deS σ a) := by
  intro t k h1 h2
  have h12 : ru 1 ≤ 12 := by unfold RB at hr; omega
  refine ⟨?_, h.2.2 t k h2 (by omega)⟩
  unfold deS
  rw [if_pos ⟨h2, by omega⟩]
  exact (jI_of _).symm
/-- a table that is known -/
def lvi (o : Nat) : Nat := if o = 43 then 1 else 0
def Kn (σ : Mm) (o : Nat) (ru am : Nat → Int) (ra : Nat → Nat → Int) (pol : Option (Nat → Nat → Int)) : Prop := σ.1 o 7 ≠ 0 → ∀ (r : Nat) (cp : Int), r ≤ 2 → 0 ≤ cp → cp ≤ 999 → σ.1 o 5 = jI cp → σ.1 o 6 = jI r → (∃ k : Nat, r ≤ k ∧ k ≤ 2 ∧ σ.1 62 (lvi o) = jI (k : Int) ∧ Ze σ o ru) ∧ ∀ t h : Nat, (t : Int) < ru 1 → h ≤ t → Nt σ o ru am ra pol r cp (zN ru am ra pol r) t h
/-- rows of new loans -/
def Lw (σ : Mm) (i : Nat) (ru am : Nat → Int) (ra : Nat → Nat → Int) (pol : Option (Nat → Nat → Int)) : Prop := ∃ k : Nat, k ≤ 2 ∧ σ.1 62 i = jI k ∧ ∀ j : Nat, j < k → ∀ t h : Nat, ru 9 + ru 10 ≤ t → (t : Int) < ru 1 → h ≤ t → σ.1 (57 + 3 * i + j) (nd t h) = jI (zN ru am ra pol (j + 1) t h)
def CJ (σ : Mm) (ru : Nat → Int) : Prop := CB σ 55 ∧ LC σ ru (amS σ 55) ∧ Lw σ 0 ru (amS σ 55) (raS σ 55 0) none ∧ Lw σ 1 ru (amS σ 55) (raS σ 55 0) (some (deS σ 55)) ∧ Kn σ 31 ru (amS σ 55) (raS σ 55 0) none ∧ Kn σ 43 ru (amS σ 55) (raS σ 55 0) (some (deS σ 55))
def CI (σ : Mm) (ru : Nat → Int) : Prop := RC σ ru ∧ (σ.1 15 11 = 0 ∨ σ.1 15 11 = 1) ∧ (σ.1 15 11 = 0 → CJ σ ru)
theorem Nt.fr2 {ru am : Nat → Int} {ra : Nat → Nat → Int} {o : Nat} {τ τ' : Mm} {pol : Option (Nat → Nat → Int)} {r : Nat} {cp : Int} {N : Nat → Nat → Int} {t h : Nat} (hr : RB ru) (hN : Nt τ o ru am ra pol r cp N t h) (e : ∀ a, a ∈ bS o → τ'.1 a = τ.1 a) : Nt τ' o ru am ra pol r cp N t h := by
  obtain ⟨h1, h2, h3, h4, h5⟩ := hN
  have h10 : ru 10 ≤ 2 := by unfold RB at hr; omega
  have m1 : ∀ k : Nat, (k : Int) ≤ ru 10 → o + 5 + k ∈ bS o ∧ o + 9 + k ∈ bS o := by
    intro k hk
    have : k = 0 ∨ k = 1 ∨ k = 2 := by omega
    unfold bS
    rcases this with rfl | rfl | rfl <;> simp
  exact ⟨by rw [e _ (by unfold bS; simp)]; exact h1, fun k q1 q2 => by rw [e _ (m1 k q1).1]; exact h2 k q1 q2, fun q0 k q1 q2 q3 => by rw [e _ (m1 k q1).2]; exact h3 q0 k q1 q2 q3, by rw [e _ (by unfold bS; simp)]; exact h4, by rw [e _ (by unfold bS; simp)]; exact h5⟩
theorem Kn.fr {ru am : Nat → Int} {ra : Nat → Nat → Int} {o : Nat} {τ τ' : Mm} {pol : Option (Nat → Nat → Int)} (hr : RB ru) (h : Kn τ o ru am ra pol) (e0 : τ'.1 o = τ.1 o) (e62 : τ'.1 62 (lvi o) = τ.1 62 (lvi o)) (e : ∀ a, a ∈ bS o → τ'.1 a = τ.1 a) : Kn τ' o ru am ra pol := by
  intro h0 r cp h1 h2 h3 h4 h5
  rw [e0] at h0 h4 h5
  obtain ⟨⟨k, k1, k2, k3, k4⟩, hN⟩ := h h0 r cp h1 h2 h3 h4 h5
  exact ⟨⟨k, k1, k2, e62.trans k3, fun q hq => by rw [e _ (by unfold bS; simp)]; exact k4 q hq⟩, fun t k q1 q2 => (hN t k q1 q2).fr2 hr e⟩
theorem Lw.fr {ru am : Nat → Int} {ra : Nat → Nat → Int} {i : Nat} {τ τ' : Mm} {pol : Option (Nat → Nat → Int)} (h : Lw τ i ru am ra pol) (e0 : τ'.1 62 i = τ.1 62 i) (e : ∀ j, j < 2 → τ'.1 (57 + 3 * i + j) = τ.1 (57 + 3 * i + j)) : Lw τ' i ru am ra pol := by
  obtain ⟨k, h1, h2, h3⟩ := h
  exact ⟨k, h1, e0.trans h2, fun j hj t h q1 q2 q3 => by rw [e j (by omega)]; exact h3 j hj t h q1 q2 q3⟩
/-- the cells are as they were seen -/
def SS (σ : Mm) (a : Nat) (s : Int) : Prop := σ.1 15 11 = 0 ∧ (∀ j, 12 ≤ j → j < 25 → σ.1 55 j = σ.1 a j) ∧ (∀ j, 25 ≤ j → j < 103 → σ.1 55 j = jI (bnd ((σ.1 a j).toInt + s))) ∧ (∀ j, 103 ≤ j → j < 115 → σ.1 55 j = σ.1 a j)
section KLo
variable {l : Launch} {G : GT} {d : Nat} {σ : Mm} {Q : Po} {ru : Nat → Int}
theorem k_look {a : Nat} {x : Int32} (s : Int) (ha : a = 2 ∨ a = 3) (hs : -99 ≤ s ∧ s ≤ 99) (hC : CI σ ru) (hB : CB σ a) (hq : ∀ τ : Mm, RC τ ru → CJ τ ru → τ.1 15 11 = 0 → Fr [15, 16, 17, 18, 31, 43, 55, 62] σ τ → τ.2 = σ.2 → amS τ 55 = amS σ a → raS τ 55 0 = raS σ a s → deS τ 55 = deS σ a → SS τ a s → (SS σ a s → τ = σ) → Q none τ) (ex : x = jI s := by first | rfl | assumption | (simp only [jlit, jneg, jadd, jsub, jmul]; done) | (simp only [jlit, jneg, jadd, jsub, jmul]; congr 1 <;> omega) | (congr 1 <;> omega)) : MW l G (d + 3) mX8_look [.ref 15, .ref a, .int x] σ Q := by
  have hr := hC.1.1
  have hla : lenI a = 115 := by rcases ha with rfl | rfl <;> decide
  have han : a ≠ 55 ∧ a ≠ 15 ∧ a ≠ 16 ∧ a ≠ 17 ∧ a ≠ 18 ∧ a ≠ 31 ∧ a ≠ 62 ∧ a ≠ 43 := by omega
  let nw : Nat → Int32 := fun j => if 25 ≤ j ∧ j < 103 then jI (bnd ((σ.1 a j).toInt + s)) else σ.1 a j
  have nw1 : ∀ j, 25 ≤ j → j < 103 → nw j = jI (bnd ((σ.1 a j).toInt + s)) := fun j h1 h2 => if_pos ⟨h1, h2⟩
  have nw2 : ∀ j, ¬ (25 ≤ j ∧ j < 103) → nw j = σ.1 a j := fun j h => if_neg h
  -- what is the same
  have sam : ∀ τ : Mm, (∀ j, 12 ≤ j → j < 25 → τ.1 55 j = nw j) → amS τ 55 = amS σ a := fun τ h => amS_eq (fun j q1 q2 => by rw [h j q1 q2, nw2 j (by omega)])
  have sra : ∀ τ : Mm, (∀ j, 25 ≤ j → j < 103 → τ.1 55 j = nw j) → raS τ 55 0 = raS σ a s := fun τ h => raS_eq (fun j q1 q2 => by
    have hb := bnd_in ((σ.1 a j).toInt + s)
    rw [h j q1 q2, nw1 j q1 q2, jI_T (by omega), Int.add_zero, bnd_id hb.1 hb.2])
  have sde : ∀ τ : Mm, (∀ j, 103 ≤ j → j < 115 → τ.1 55 j = nw j) → deS τ 55 = deS σ a := fun τ h => deS_eq (fun j q1 q2 => by rw [h j q1 q2, nw2 j (by omega)])
  have scb : ∀ τ : Mm, (∀ j, 12 ≤ j → j < 115 → τ.1 55 j = nw j) → CB τ 55 := by
    intro τ h
    refine ⟨fun j q1 q2 => ?_, fun j q1 q2 => ?_, fun t k q1 q2 => ?_⟩
    · rw [h j (by omega) (by omega), nw2 j (by omega)]
      exact hB.1 j q1 q2
    · have hb := bnd_in ((σ.1 a j).toInt + s)
      rw [h j (by omega) (by omega), nw1 j q1 q2, jI_T (by omega)]
      exact hb
    · rw [sde τ (fun j z1 z2 => h j (by omega) z2)]
      exact hB.2.2 t k q1 q2
  -- behind the second look
  let P : Mm → Int32 → Prop := fun τ b => (b = 0 ∨ b = 1) ∧ (b = 0 → σ.1 15 11 = 0 ∧ ∀ j, 12 ≤ j → j < 103 → σ.1 55 j = nw j) ∧ τ.2 = σ.2 ∧ τ.1 15 11 = 0 ∧ (∀ j, τ.1 55 j = if 12 ≤ j ∧ j < 103 then nw j else σ.1 55 j) ∧ LC τ ru (amS σ a) ∧ (b = 1 → ¬ SS σ a s) ∧ (b = 0 → ∀ c, c ≠ 55 → τ.1 c = σ.1 c)
  have end4 : ∀ (τ : Mm), τ.2 = σ.2 → τ.1 15 11 = 0 → (∀ c, c ∉ [15, 16, 17, 18, 31, 43, 55, 62] → τ.1 c = σ.1 c) → (∀ j, 12 ≤ j → j < 115 → τ.1 55 j = nw j) → LC τ ru (amS σ a) → Lw τ 0 ru (amS σ a) (raS σ a s) none → Kn τ 31 ru (amS σ a) (raS σ a s) none → Lw τ 1 ru (amS σ a) (raS σ a s) (some (deS σ a)) → Kn τ 43 ru (amS σ a) (raS σ a s) (some (deS σ a)) → (SS σ a s → τ = σ) → Q none τ := by
    intro τ e1 e2 e3 e4 hL h1 h2 h3 h4 hE
    have ea : τ.1 a = σ.1 a := e3 a (by simp; omega)
    have z1 := sam τ (fun j q1 q2 => e4 j q1 (by omega))
    have z2 := sra τ (fun j q1 q2 => e4 j (by omega) (by omega))
    have z3 := sde τ (fun j q1 q2 => e4 j (by omega) q2)
    refine hq τ (hC.1.fr (e3 1 (by decide))) ⟨scb τ e4, ?_, ?_, ?_, ?_, ?_⟩ e2 ⟨e3, fun b _ => by rw [e1]⟩ e1 z1 z2 z3 ⟨e2, fun j q1 q2 => by rw [e4 j q1 (by omega), ea, nw2 j (by omega)], fun j q1 q2 => by rw [e4 j (by omega) (by omega), ea, nw1 j q1 q2], fun j q1 q2 => by rw [e4 j (by omega) q2, ea, nw2 j (by omega)]⟩ hE
    · rw [z1]; exact hL
    · rw [z1, z2]; exact h1
    · rw [z1, z2, z3]; exact h3
    · rw [z1, z2]; exact h2
    · rw [z1, z2, z3]; exact h4
  have at108 : ∀ (τ : Mm) (b : Int32), P τ b → (∀ c, c ∉ [15, 16, 17, 18, 55, 31, 62] → τ.1 c = σ.1 c) → τ.1 62 1 = σ.1 62 1 → Lw τ 0 ru (amS σ a) (raS σ a s) none → Kn τ 31 ru (amS σ a) (raS σ a s) none → Wp l G (d + 3) mX8_look 108 [(0, .ref 15), (1, .ref a), (3, .int b)] [] τ Q := by
    intro τ b hP he h62 hLv hKn
    obtain ⟨p1, p2, p3, p4, p5, p6, p7, p8⟩ := hP
    refine wX8_look [] 80 ?_
    refine k_takesOver 103 115 hla han.1 (by omega) (by omega) (fun ρ b4 hb4 hb40 hb41 r1 r2 r3 => ?_)
    have ea : τ.1 a = σ.1 a := he a (by simp; omega)
    have hrow : ∀ j, 12 ≤ j → j < 115 → ρ.1 55 j = nw j := by
      intro j q1 q2
      rw [r3 j]
      by_cases z : 103 ≤ j ∧ j < 115
      · rw [if_pos z, ea, nw2 j (by omega)]
      · rw [if_neg z, p5 j, if_pos (by omega)]
    have hL2 : LC ρ ru (amS σ a) := p6.fr (r2 16 (by decide)) (r2 17 (by decide)) (r2 18 (by decide))
    have hLv2 : Lw ρ 0 ru (amS σ a) (raS σ a s) none := hLv.fr (by rw [r2 62 (by decide)]) (fun j hj => r2 _ (by omega))
    have hKn2 : Kn ρ 31 ru (amS σ a) (raS σ a s) none := hKn.fr hr (r2 31 (by decide)) (by rw [r2 62 (by decide)]) (fun c hc => r2 c (bS_ne (Or.inr (Or.inl rfl)) c hc).2.2.2.2.1)
    have e15 : ρ.1 15 11 = 0 := by rw [r2 15 (by decide)]; exact p4
    have hfr : ∀ c, c ∉ [15, 16, 17, 18, 31, 43, 55, 62] → ρ.1 c = σ.1 c := by
      intro c hc
      rw [r2 c (fun q => hc (by rw [q]; simp)), he c (fun q => hc (by simp at q ⊢; omega))]
    have go0 : ¬ SS σ a s → Q none (uI (uI ρ 62 1 0) 43 7 0) := by
      intro hnS
      have hfr2 : ∀ c, c ≠ 43 → c ≠ 62 → (uI (uI ρ 62 1 0) 43 7 0).1 c = ρ.1 c := fun c h1 h2 => by rw [uI_n h1, uI_n h2]
      refine end4 _ (r1.trans p3) (by rw [hfr2 15 (by decide) (by decide)]; exact e15) (fun c hc => by rw [hfr2 c (fun q => hc (by rw [q]; simp)) (fun q => hc (by rw [q]; simp))]; exact hfr c hc) (fun j q1 q2 => by rw [hfr2 55 (by decide) (by decide)]; exact hrow j q1 q2) (hL2.fr (hfr2 16 (by decide) (by decide)) (hfr2 17 (by decide) (by decide)) (hfr2 18 (by decide) (by decide))) (hLv2.fr (by rw [uI_n (by decide), uI_ne (Or.inr (by decide))]) (fun j hj => hfr2 _ (by omega) (by omega))) (hKn2.fr hr (hfr2 31 (by decide) (by decide)) (by show (uI (uI ρ 62 1 0) 43 7 0).1 62 0 = ρ.1 62 0; rw [uI_n (by decide), uI_ne (Or.inr (by decide))]) (fun c hc => hfr2 c (fun q => by rw [q] at hc; exact absurd hc (by decide)) (fun q => by rw [q] at hc; exact absurd hc (by decide)))) ⟨0, by omega, ?_, fun j hj => by omega⟩ (fun q => absurd (uI_at _ _ _ _) q) (fun q => absurd q hnS)
      rw [uI_n (by decide)]
      exact uI_at _ _ _ _
    have goS : b = 0 → b4 = 0 → Q none ρ := by
      intro z1 z2
      obtain ⟨q1, q2⟩ := p2 z1
      have ec : ∀ c, c ∉ [15, 16, 17, 18, 31, 62, 55] → ρ.1 c = σ.1 c := by
        intro c hc
        rw [r2 c (fun q => hc (by rw [q]; simp)), he c (fun q => hc (by simp at q ⊢; omega))]
      have q3 : ∀ j, 103 ≤ j → j < 115 → σ.1 55 j = nw j := by
        intro j z1 z2
        have := hb40 (by assumption) j z1 z2
        rw [p5 j, if_neg (by omega), ea] at this
        rw [this, nw2 j (by omega)]
      obtain ⟨c1, c2, c3, c4, c5, c6⟩ := hC.2.2 q1
      rw [sam σ (fun j z1 z2 => q2 j z1 (by omega)), sra σ (fun j z1 z2 => q2 j (by omega) z2), sde σ q3] at c4 c6
      refine end4 ρ (r1.trans p3) e15 hfr hrow hL2 hLv2 hKn2 (c4.fr (by rw [r2 62 (by decide), h62]) (fun j hj => ec _ (by simp; omega))) (c6.fr hr (ec 43 (by decide)) (by show ρ.1 62 1 = σ.1 62 1; rw [r2 62 (by decide), h62]) (fun c hc => ec c (by
        unfold bS at hc
        simp at hc ⊢
        omega))) (fun _ => ?_)
      refine Prod.ext (funext fun c => ?_) (r1.trans p3)
      by_cases hc : c = 55
      · subst hc
        funext j
        rw [r3 j]
        by_cases w : 103 ≤ j ∧ j < 115
        · rw [if_pos w, ea, q3 j w.1 w.2, nw2 j (by omega)]
        · rw [if_neg w, p5 j]
          by_cases w2 : 12 ≤ j ∧ j < 103
          · rw [if_pos w2, q2 j w2.1 w2.2]
          · rw [if_neg w2]
      · rw [r2 c hc, p8 z1 c hc]
    have n1 : ¬ b = 0 → ¬ SS σ a s := fun q => p7 (by rcases p1 with w | w; exact absurd w q; exact w)
    have n4 : ¬ b4 = 0 → ¬ SS σ a s := by
      intro q hS
      obtain ⟨j, j1, j2, j3⟩ := hb41 (by rcases hb4 with w | w; exact absurd w q; exact w)
      rw [p5 j, if_neg (by omega), ea] at j3
      exact j3 (hS.2.2.2 j j1 j2)
    refine And.intro (fun z => ?_) (fun z => ?_)
    · refine And.intro (fun z2 => ?_) (fun z2 => ?_)
      · exact goS z2 z
      · refine stI 2 1 ?_
        refine And.intro (Or.inl rfl) ?_
        exact go0 (n1 z2)
    · refine stI 2 1 ?_
      refine And.intro (Or.inl rfl) ?_
      exact go0 (n4 z)
  have at89 : ∀ (τ : Mm) (b : Int32), P τ b → (∀ c, c ∉ [15, 16, 17, 18, 55] → τ.1 c = σ.1 c) → Wp l G (d + 3) mX8_look 89 [(0, .ref 15), (1, .ref a), (3, .int b)] [] τ Q := by
    intro τ b hP he
    obtain ⟨p1, p2, p3, p4, p5, p6, p7, p8⟩ := hP
    refine wX8_look [(108, [0, 1, 3])] 60 ?_
    refine And.intro (fun z => ?_) (fun z => ?_)
    · obtain ⟨q1, q2⟩ := p2 z
      obtain ⟨c1, c2, c3, c4, c5, c6⟩ := hC.2.2 q1
      rw [sam σ (fun j z1 z2 => q2 j z1 (by omega)), sra σ (fun j z1 z2 => q2 j (by omega) z2)] at c3 c5
      exact at108 τ b ⟨p1, p2, p3, p4, p5, p6, p7, p8⟩ (fun c hc => he c (fun q => hc (by simp at q ⊢; omega))) (by rw [he 62 (by decide)]) (c3.fr (by rw [he 62 (by decide)]) (fun j hj => he _ (by simp; omega))) (c5.fr hr (he 31 (by decide)) (by rw [he 62 (by decide)]) (fun c hc => he c (by
        unfold bS at hc
        simp at hc ⊢
        omega)))
    · refine stI 2 0 ?_
      refine And.intro (Or.inl rfl) ?_
      have hfr2 : ∀ c, c ≠ 31 → c ≠ 62 → (uI (uI τ 62 0 0) 31 7 0).1 c = τ.1 c := fun c h1 h2 => by rw [uI_n h1, uI_n h2]
      refine at108 (uI (uI τ 62 0 0) 31 7 0) b ⟨p1, p2, p3, by rw [hfr2 15 (by decide) (by decide)]; exact p4, fun j => by rw [hfr2 55 (by decide) (by decide)]; exact p5 j, p6.fr (hfr2 16 (by decide) (by decide)) (hfr2 17 (by decide) (by decide)) (hfr2 18 (by decide) (by decide)), p7, fun q => absurd q z⟩ (fun c hc => by rw [hfr2 c (fun q => hc (by rw [q]; simp)) (fun q => hc (by rw [q]; simp))]; exact he c (fun q => hc (by simp at q ⊢; omega))) (by rw [uI_n (by decide), uI_ne (Or.inr (by decide)), he 62 (by decide)]) ⟨0, by omega, ?_, fun j hj => by omega⟩ (fun q => absurd (uI_at _ _ _ _) q)
      rw [uI_n (by decide)]
      exact uI_at _ _ _ _
  -- the first look
  let J : Mm → Nat → Int32 → Prop := fun τ i b => (b = 0 ∨ b = 1) ∧ (b = 0 → σ.1 15 11 = 0 ∧ ∀ j, 25 ≤ j → j < i → σ.1 55 j = nw j) ∧ τ.2 = σ.2 ∧ τ.1 15 11 = 0 ∧ (∀ c, c ≠ 15 → c ≠ 55 → τ.1 c = σ.1 c) ∧ (∀ j, τ.1 55 j = if 25 ≤ j ∧ j < i then nw j else σ.1 55 j) ∧ (b = 1 → ¬ SS σ a s) ∧ ∀ j, j ≠ 11 → τ.1 15 j = σ.1 15 j
  have at67 : ∀ (τ : Mm) (b : Int32), J τ 103 b → Wp l G (d + 3) mX8_look 67 [(0, .ref 15), (1, .ref a), (3, .int b)] [] τ Q := by
    intro τ b hJ
    obtain ⟨p1, p2, p3, p4, p5, p6, p7, p8⟩ := hJ
    have ea : τ.1 a = σ.1 a := p5 a han.2.1 han.1
    refine wX8_look [(89, [0, 1, 3])] 80 ?_
    refine k_takesOver 12 25 hla han.1 (by omega) (by omega) (fun ρ b2 hb2 hb20 hb21 r1 r2 r3 => ?_)
    have hrow : ∀ j, ρ.1 55 j = if 12 ≤ j ∧ j < 103 then nw j else σ.1 55 j := by
      intro j
      rw [r3 j]
      by_cases z : 12 ≤ j ∧ j < 25
      · rw [if_pos z, if_pos (by omega), ea, nw2 j (by omega)]
      · rw [if_neg z, p6 j]
        by_cases z2 : 25 ≤ j ∧ j < 103
        · rw [if_pos z2, if_pos (by omega)]
        · rw [if_neg z2, if_neg (by omega)]
    have hfr : ∀ c, c ≠ 15 → c ≠ 55 → ρ.1 c = σ.1 c := fun c h1 h2 => by rw [r2 c h2, p5 c h1 h2]
    have e15 : ρ.1 15 11 = 0 := by rw [r2 15 (by decide)]; exact p4
    have am1 : amS ρ 55 = amS σ a := sam ρ (fun j q1 q2 => by rw [hrow j, if_pos (by omega)])
    have gam : ∀ j, j < 13 → ρ.1 55 (12 + j) = jI (amS σ a j) ∧ amS σ a j ≤ 9999 := by
      intro j hj
      refine ⟨?_, (amS_in hB j).2⟩
      rw [hrow (12 + j), if_pos (by omega), nw2 _ (by omega)]
      unfold amS
      rw [if_pos hj]
      exact (jI_of _).symm
    have go1 : ¬ SS σ a s → ∀ τ' : Mm, Fr [16, 17, 18] ρ τ' → τ'.2 = ρ.2 → LC τ' ru (amS σ a) → Wp l G (d + 3) mX8_look 89 [(0, .ref 15), (1, .ref a), (3, .int 1)] [] τ' Q := by
      intro hn τ' f1 f2 f3
      refine at89 τ' 1 ⟨Or.inr rfl, fun q => absurd q (by decide), f2.trans (r1.trans p3), by rw [f1.1 15 (by decide)]; exact e15, fun j => by rw [f1.1 55 (by decide)]; exact hrow j, f3, fun _ => hn, fun q => absurd q (by decide)⟩ (fun c hc => ?_)
      rw [f1.1 c (fun q => hc (by simp at q ⊢; omega))]
      exact hfr c (fun q => hc (by rw [q]; simp)) (fun q => hc (by rw [q]; simp))
    refine And.intro (fun z => ?_) (fun z => ?_)
    · refine And.intro (fun z2 => ?_) (fun z2 => ?_)
      · obtain ⟨q1, q2⟩ := p2 z2
        have hsm : ∀ j, 12 ≤ j → j < 103 → σ.1 55 j = nw j := by
          intro j w1 w2
          by_cases w : 25 ≤ j
          · exact q2 j w w2
          · have := hb20 z j w1 (by omega)
            rw [p6 j, if_neg (by omega), ea] at this
            rw [this, nw2 j (by omega)]
        have hLs := (hC.2.2 q1).2.1
        rw [sam σ (fun j w1 w2 => hsm j w1 (by omega))] at hLs
        refine at89 ρ b ⟨p1, fun _ => ⟨q1, hsm⟩, r1.trans p3, e15, hrow, hLs.fr (hfr 16 (by decide) (by decide)) (hfr 17 (by decide) (by decide)) (hfr 18 (by decide) (by decide)), p7, fun _ c hc => ?_⟩ (fun c hc => hfr c (fun q => hc (by rw [q]; simp)) (fun q => hc (by rw [q]; simp)))
        by_cases h15 : c = 15
        · subst h15
          funext j
          by_cases w : j = 11
          · rw [w, e15, q1]
          · rw [r2 15 (by decide), p8 j w]
        · exact hfr c h15 hc
      · exact k_reckonYears (am := amS σ a) (hC.1.fr (hfr 1 (by decide) (by decide))) (fun j => (amS_in hB j).1) gam (go1 (p7 (by rcases p1 with w | w; exact absurd w z2; exact w)))
    · refine k_reckonYears (am := amS σ a) (hC.1.fr (hfr 1 (by decide) (by decide))) (fun j => (amS_in hB j).1) gam (go1 (fun hS => ?_))
      obtain ⟨j, j1, j2, j3⟩ := hb21 (by rcases hb2 with w | w; exact absurd w z; exact w)
      rw [p6 j, if_neg (by omega), ea] at j3
      exact j3 (hS.2.1 j j1 j2)
  have key : ∀ (n i : Nat) (τ : Mm) (b u : Int32), i + n = 103 → 25 ≤ i → u = jI i → J τ i b → Wp l G (d + 3) mX8_look 14 [(0, .ref 15), (1, .ref a), (2, .int x), (3, .int b), (4, .int u)] [] τ Q := by
    intro n
    induction n with
    | zero =>
      intro i τ b u hn hi hu hJ
      obtain rfl : i = 103 := by omega
      refine wX8_look [(67, [0, 1, 3])] 60 ?_
      refine brle 103 ((103 : Nat) : Int) (fun _ => ?_) (fun z => by omega) rfl hu
      exact at67 τ b hJ
    | succ n ih =>
      intro i τ b u hn hi hu hJ
      subst hu
      obtain ⟨p1, p2, p3, p4, p5, p6, p7, p8⟩ := hJ
      have ea : τ.1 a i = jI (σ.1 a i).toInt := by rw [p5 a han.2.1 han.1]; exact (jI_of _).symm
      have es : τ.1 55 i = σ.1 55 i := by rw [p6 i, if_neg (by omega)]
      have hbi := hB.2.1 i hi (by omega)
      have go : ∀ b', (b' = 0 ∨ b' = 1) → (b' = 0 → b = 0 ∧ σ.1 55 i = nw i) → (b' = 1 → b = 1 ∨ σ.1 55 i ≠ nw i) → Wp l G (d + 3) mX8_look 14 [(0, .ref 15), (1, .ref a), (2, .int x), (3, .int b'), (4, .int (jI i + 1))] [] (uI τ 55 i (jI (bnd ((σ.1 a i).toInt + s)))) Q := by
        intro b' hb' hb0' hb1'
        refine ih (i + 1) _ b' _ (by omega) (by omega) (by first | rfl | assumption | (simp only [jlit, jneg, jadd, jsub, jmul]; done) | (simp only [jlit, jneg, jadd, jsub, jmul]; congr 1 <;> omega) | (congr 1 <;> omega)) ⟨hb', fun z => ⟨(p2 (hb0' z).1).1, fun j q1 q2 => ?_⟩, p3, by rw [uI_n (by decide)]; exact p4, fun c h1 h2 => by rw [uI_n h2]; exact p5 c h1 h2, fun j => ?_, fun z hS => ?_, fun j hj => by rw [uI_n (by decide)]; exact p8 j hj⟩
        · by_cases ej : j = i
          · rw [ej]; exact (hb0' z).2
          · exact (p2 (hb0' z).1).2 j q1 (by omega)
        · by_cases ej : j = i
          · subst ej
            rw [uI_at, if_pos (by omega), nw1 j hi (by omega)]
          · rw [uI_ne (Or.inr ej), p6 j]
            by_cases z : 25 ≤ j ∧ j < i
            · rw [if_pos z, if_pos (by omega)]
            · rw [if_neg z, if_neg (by omega)]
        · rcases hb1' z with q | q
          · exact p7 q hS
          · rw [nw1 i hi (by omega)] at q
            exact q (hS.2.2.1 i hi (by omega))
      refine wX8_look [(14, [0, 1, 2, 3, 4])] 80 ?_
      refine brle 103 i (fun z => by omega) (fun _ => ?_)
      refine ldI (lenI a) i ea ?_
      refine k_bounded ((σ.1 a i).toInt + s) (by omega) ?_ (by rw [ex, jadd])
      refine ldI 115 i es ?_
      refine And.intro (fun z => ?_) (fun z => ?_)
      · refine stI 115 i ?_
        rcases p1 with hb | hb
        · subst hb
          exact go _ (Or.inl rfl) (fun _ => ⟨rfl, by rw [nw1 i hi (by omega)]; exact z⟩) (fun z => absurd z (by decide))
        · subst hb
          exact go _ (Or.inr rfl) (fun z => absurd z (by decide)) (fun _ => Or.inl rfl)
      · refine stI 115 i ?_
        rcases p1 with hb | hb
        · subst hb
          exact go _ (Or.inr rfl) (fun z => absurd z (by decide)) (fun _ => Or.inr (by rw [nw1 i hi (by omega)]; exact z))
        · subst hb
          exact go _ (Or.inr rfl) (fun z => absurd z (by decide)) (fun _ => Or.inr (by rw [nw1 i hi (by omega)]; exact z))
  refine vX8_look [(14, [0, 1, 2, 3, 4])] 60 ?_
  refine And.intro (Or.inl rfl) ?_
  refine key 78 25 (uI σ 15 11 0) _ _ (by omega) (by omega) rfl ⟨hC.2.1, fun z => ⟨z, fun j q1 q2 => by omega⟩, rfl, uI_at _ _ _ _, fun c h1 h2 => uI_n h1, fun j => by rw [uI_n (by decide), if_neg (by omega)], fun z hS => absurd (hS.1.symm.trans z) (by decide), fun j hj => uI_ne (Or.inr hj)⟩
end KLo
