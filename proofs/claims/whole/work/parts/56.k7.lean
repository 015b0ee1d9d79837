-- reckon: the tables of all nodes
def rB (o i : Nat) : List Nat := [57 + 3 * i, 58 + 3 * i, 62, o, 19] ++ (bS 19 ++ bS o)
section KRe
variable {l : Launch} {G : GT} {d : Nat} {σ : Mm} {Q : Po} {ru : Nat → Int}
theorem k_reckonB {a : Nat} {y : Int32} (am : Nat → Int) (ra de : Nat → Nat → Int) (m cp : Int) (r o i : Nat) (pol : Option (Nat → Nat → Int)) (hmo : (m = 0 ∧ o = 31 ∧ i = 0 ∧ pol = none) ∨ (m = 1 ∧ o = 43 ∧ i = 1 ∧ pol = some de)) (hR : RC σ ru) (hL : LC σ ru am) (hS : SC σ ru ra) (hD : DC σ 55 ru de) (hLw : Lw σ i ru am ra pol) (hcp : 0 ≤ cp ∧ cp ≤ 999) (hr2 : r ≤ 2)
    (hq : ∀ τ : Mm, (∀ c, c ∉ rB o i → τ.1 c = σ.1 c) → τ.2 = σ.2 → (∀ j, j ≠ i → τ.1 62 j = σ.1 62 j) → Lw τ i ru am ra pol → (τ.1 o 7 ≠ 0 ∧ τ.1 o 5 = jI cp ∧ τ.1 o 6 = jI r) → (∀ t h : Nat, (t : Int) < ru 1 → h ≤ t → Nt τ o ru am ra pol r cp (zN ru am ra pol r) t h) → (∃ k : Nat, r ≤ k ∧ k ≤ 2 ∧ τ.1 62 i = jI (k : Int) ∧ Ze τ o ru) → Q (some (.ref o)) τ)
    (ey : y = jI m) : Wp l G (d + 5) mX8_reckon 65 [(0, .ref 15), (3, .int y), (4, .ref o), (5, .int (jI cp)), (6, .int (jI r))] [] σ Q := by
  have hr := hR.1
  have hr' := hr
  unfold RB at hr'
  obtain ⟨k, hk2, hk, hrows⟩ := hLw
  have hra0 : ∀ t h : Nat, (t : Int) < ru 1 → h ≤ t → 0 ≤ ra t h := fun t h q1 q2 => (hS t h q1 q2).2.1
  have hpol : ∀ de', pol = some de' → DC σ 55 ru de' := by
    intro de' e
    rcases hmo with ⟨-, -, -, q⟩ | ⟨-, -, -, q⟩
    · rw [q] at e; cases e
    · rw [q] at e; cases e; exact hD
  have hzN : ∀ (r : Nat), r ≤ 2 → ∀ t h : Nat, (t : Int) < ru 1 → h ≤ t → 0 ≤ zN ru am ra pol r t h ∧ zN ru am ra pol r t h ≤ 690000 := by
    intro r hr2 t h q1 q2
    have := zN_in hr hL.1 hra0 (pol := pol) (fun de' e t h q1 q2 => (hpol de' e t h q1 q2).2) r t h q1 q2
    have : (r : Int) * 310000 ≤ 2 * 310000 := by omega
    omega
  have hMd : Md m pol := by
    rcases hmo with ⟨q1, -, -, q⟩ | ⟨q1, -, -, q⟩
    · exact Or.inl ⟨q1, q⟩
    · exact Or.inr (Or.inl ⟨q1, by rw [q]; rfl⟩)
  have hm01 : m = 0 ∧ i = 0 ∨ m = 1 ∧ i = 1 := by rcases hmo with ⟨q1, -, q2, -⟩ | ⟨q1, -, q2, -⟩ <;> omega
  have hfw : ∀ L : Nat, 0 < L → frw m L = 57 + 3 * i + (L - 1) := by
    intro L hL
    unfold frw
    rcases hm01 with ⟨q1, q2⟩ | ⟨q1, q2⟩ <;> rw [q1, q2] <;> simp
  have hoT : Tb o := by rcases hmo with ⟨-, q, -, -⟩ | ⟨-, q, -, -⟩ <;> rw [q] <;> simp [Tb]
  -- rows
  let I : Mm → Nat → Nat → Nat → Prop := fun τ L T H => (∀ c, c ∉ [57 + 3 * i, 58 + 3 * i, 19] ++ bS 19 → τ.1 c = σ.1 c) ∧ τ.2 = σ.2 ∧ (∀ j : Nat, j < L → ∀ t h : Nat, ru 9 + ru 10 ≤ t → (t : Int) < ru 1 → h ≤ t → τ.1 (57 + 3 * i + j) (nd t h) = jI (zN ru am ra pol (j + 1) t h)) ∧ (∀ t h : Nat, ru 9 + ru 10 ≤ t → (t : Int) < ru 1 → h ≤ t → (t < T ∨ t = T ∧ h < H) → τ.1 (57 + 3 * i + L) (nd t h) = jI (zN ru am ra pol (L + 1) t h))
  have base : ∀ τ : Mm, (∀ c, c ∉ [57 + 3 * i, 58 + 3 * i, 19] ++ bS 19 → τ.1 c = σ.1 c) → RC τ ru ∧ LC τ ru am ∧ SC τ ru ra ∧ τ.1 55 = σ.1 55 ∧ τ.1 62 = σ.1 62 := by
    intro τ e
    rcases hm01 with ⟨-, rfl⟩ | ⟨-, rfl⟩
    · exact ⟨hR.fr (e 1 (by decide)), hL.fr (e 16 (by decide)) (e 17 (by decide)) (e 18 (by decide)), hS.fr (e 55 (by decide)), e 55 (by decide), e 62 (by decide)⟩
    · exact ⟨hR.fr (e 1 (by decide)), hL.fr (e 16 (by decide)) (e 17 (by decide)) (e 18 (by decide)), hS.fr (e 55 (by decide)), e 55 (by decide), e 62 (by decide)⟩
  have at222 : ∀ τ : Mm, I τ (max k r) 0 0 → Wp l G (d + 5) mX8_reckon 222 [(0, .ref 15), (3, .int y), (4, .ref o), (5, .int (jI cp)), (6, .int (jI r))] [] τ Q := by
    intro τ hI
    obtain ⟨i1, i2, i3, i4⟩ := hI
    obtain ⟨b1, b2, b3, b4, b5⟩ := base τ i1
    have h62 : τ.1 62 i = jI k := by rw [b5]; exact hk
    have emx : (if jI k < jI r then jI r else jI k) = jI ((max k r : Nat) : Int) := by
      by_cases z : (k : Int) < r
      · rw [if_pos ((jlt (by omega) (by omega)).mpr z), show max k r = r by omega]
      · rw [if_neg (fun q => z ((jlt (by omega) (by omega)).mp q)), show max k r = k by omega]
    obtain ⟨τ1, ht1⟩ : ∃ τ1, τ1 = uI (uI (uI (uI τ 62 i (if jI k < jI r then jI r else jI k)) o 5 (jI cp)) o 6 (jI r)) o 7 1 := ⟨_, rfl⟩
    have e1 : ∀ c, c ≠ 62 → c ≠ o → τ1.1 c = τ.1 c := fun c h1 h2 => by rw [ht1, uI_n h2, uI_n h2, uI_n h2, uI_n h1]
    have oi : o = 31 ∧ i = 0 ∨ o = 43 ∧ i = 1 := by rcases hmo with ⟨-, q1, q2, -⟩ | ⟨-, q1, q2, -⟩ <;> omega
    have o5 : τ1.1 o 5 = jI cp := by rw [ht1, uI_ne (Or.inr (by decide)), uI_ne (Or.inr (by decide)), uI_at]
    have o6 : τ1.1 o 6 = jI r := by rw [ht1, uI_ne (Or.inr (by decide)), uI_at]
    have o7 : τ1.1 o 7 = 1 := by rw [ht1, uI_at]
    have o62 : ∀ j, τ1.1 62 j = if j = i then jI ((max k r : Nat) : Int) else τ.1 62 j := by
      intro j
      rw [ht1, uI_n (by omega), uI_n (by omega), uI_n (by omega)]
      by_cases z : j = i
      · rw [z, if_pos rfl, uI_at, emx]
      · rw [if_neg z, uI_ne (Or.inr z)]
    have mb : ∀ c, c ∈ bS o → c ≠ 62 ∧ c ≠ 57 + 3 * i ∧ c ≠ 58 + 3 * i ∧ c ≠ o := by
      intro c hc
      unfold bS at hc
      simp at hc
      omega
    have call : ∀ Q' : Po, (∀ ρ : Mm, (∀ c, c ∉ bS o → ρ.1 c = τ1.1 c) → ρ.2 = τ1.2 → (∀ t h : Nat, (t : Int) < ru 1 → h ≤ t → Nt ρ o ru am ra pol r cp (zN ru am ra pol r) t h) → Ze ρ o ru → Q' none ρ) → MW l G (d + 4) mX8_build [.ref 15, .ref o, .int 0, .int 0, .int y] τ1 Q' := by
      intro Q' hQ'
      refine k_buildZ pol (zN ru am ra pol r) r 0 0 cp m hoT (b1.fr (e1 1 (by omega) (by omega))) (b2.fr (e1 16 (by omega) (by omega)) (e1 17 (by omega) (by omega)) (e1 18 (by omega) (by omega))) (b3.fr (e1 55 (by omega) (by omega))) (by omega) (Nat.le_refl _) hcp hMd o5 o6 hr2 (fun _ de' e t h q1 q2 => ?_) (fun q0 _ t h q1 q2 q3 => ?_) (fun q => by omega) (fun _ => hzN r hr2) (fun ρ f1 f2 f3 f4 => hQ' ρ f1 f2 (fun t h q1 q2 => f3 t h (Nat.zero_le _) q1 (Nat.zero_le _) (by omega)) (fun h q => f4 h (Nat.zero_le _) (by omega))) rfl rfl ey
      · rw [e1 55 (by omega) (by omega), b4]
        exact hpol de' e t h q1 q2
      · rw [hfw r q0, e1 _ (by omega) (by omega)]
        have := i3 (r - 1) (by omega) t h q1 q2 q3
        rw [show r - 1 + 1 = r by omega] at this
        exact this
    have fin : ∀ ρ : Mm, (∀ c, c ∉ bS o → ρ.1 c = τ1.1 c) → ρ.2 = τ1.2 → (∀ t h : Nat, (t : Int) < ru 1 → h ≤ t → Nt ρ o ru am ra pol r cp (zN ru am ra pol r) t h) → Ze ρ o ru → Q (some (.ref o)) ρ := by
      intro ρ f1 f2 f3 f4
      have z62 : ρ.1 62 = τ1.1 62 := f1 62 (fun q => (mb _ q).1 rfl)
      have zo : ρ.1 o = τ1.1 o := f1 o (fun q => (mb _ q).2.2.2 rfl)
      refine hq ρ (fun c hc => ?_) (f2.trans (by rw [ht1]; exact i2)) (fun j hj => by rw [z62, o62 j, if_neg hj, b5]) ⟨max k r, by omega, by rw [z62, o62 i, if_pos rfl], fun j hj t h q1 q2 q3 => ?_⟩ ⟨by rw [zo, o7]; decide, by rw [zo]; exact o5, by rw [zo]; exact o6⟩ f3 ⟨max k r, by omega, by omega, by rw [z62, o62 i, if_pos rfl], f4⟩
      · unfold rB at hc
        simp only [List.mem_append, List.mem_cons, List.not_mem_nil, or_false, not_or] at hc
        rw [f1 c hc.2.2, e1 c hc.1.2.2.1 hc.1.2.2.2.1]
        refine i1 c ?_
        simp only [List.mem_append, List.mem_cons, List.not_mem_nil, or_false, not_or]
        exact ⟨⟨hc.1.1, hc.1.2.1, hc.1.2.2.2.2⟩, hc.2.1⟩
      · rw [f1 _ (fun q => by have := mb _ q; omega), e1 _ (by omega) (by omega)]
        exact i3 j hj t h q1 q2 q3
    rcases hmo with ⟨rfl, rfl, rfl, rfl⟩ | ⟨rfl, rfl, rfl, rfl⟩
    · refine wX8_reckon [] 60 ?_
      refine ldI 2 0 h62 ?_ (hi := ey)
      refine stI 2 0 ?_ (hi := ey)
      refine And.intro (Or.inr rfl) ?_
      rw [← ht1]
      exact call _ fin
    · refine wX8_reckon [] 60 ?_
      refine ldI 2 1 h62 ?_ (hi := ey)
      refine stI 2 1 ?_ (hi := ey)
      refine And.intro (Or.inr rfl) ?_
      rw [← ht1]
      exact call _ fin
  have hf0 : ((ru 9 + ru 10).toNat : Int) = ru 9 + ru 10 := Int.toNat_of_nonneg (by omega)
  have step : ∀ (L T H : Nat) (τ : Mm) (w8 w9 w10 : Int32), L < 2 → ru 9 + ru 10 ≤ (T : Int) → (T : Int) < ru 1 → H ≤ T → I τ L T H → w8 = jI L → w9 = jI T → w10 = jI H → (∀ τ' v, I τ' L T (H + 1) → v = jI ((H + 1 : Nat) : Int) → Wp l G (d + 5) mX8_reckon 135 [(0, .ref 15), (3, .int y), (4, .ref o), (5, .int (jI cp)), (6, .int (jI r)), (7, .ref (56 + 3 * i)), (8, .int w8), (9, .int w9), (10, .int v)] [] τ' Q) → Wp l G (d + 5) mX8_reckon 135 [(0, .ref 15), (3, .int y), (4, .ref o), (5, .int (jI cp)), (6, .int (jI r)), (7, .ref (56 + 3 * i)), (8, .int w8), (9, .int w9), (10, .int w10)] [] τ Q := by
    intro L T H τ w8 w9 w10 hL2 hT1 hT2 hH hI e8 e9 e10 hgo
    obtain ⟨i1, i2, i3, i4⟩ := hI
    obtain ⟨b1, b2, b3, b4, b5⟩ := base τ i1
    have hnd := nd_lt2 (t := T) (h := H) (by omega) hH
    obtain ⟨τ1, ht1⟩ : ∃ τ1, τ1 = uI (uI τ 19 5 (jI (zcp ru ra T H))) 19 6 w8 := ⟨_, rfl⟩
    have e1 : ∀ c, c ≠ 19 → τ1.1 c = τ.1 c := fun c h1 => by rw [ht1, uI_n h1, uI_n h1]
    have o5 : τ1.1 19 5 = jI (zcp ru ra T H) := by rw [ht1, uI_ne (Or.inr (by decide)), uI_at]
    have o6 : τ1.1 19 6 = jI L := by rw [ht1, uI_at, e8]
    have mb : ∀ c, c ∈ bS 19 → c ≠ 57 + 3 * i ∧ c ≠ 58 + 3 * i ∧ c ≠ 19 := by
      intro c hc
      unfold bS at hc
      simp at hc
      omega
    have call : ∀ Q' : Po, (∀ ρ : Mm, (∀ c, c ∉ bS 19 → ρ.1 c = τ1.1 c) → ρ.2 = τ1.2 → ρ.1 20 (nd T H) = jI (zN ru am ra pol (L + 1) T H) → Q' none ρ) → MW l G (d + 4) mX8_build [.ref 15, .ref 19, .int w9, .int w10, .int y] τ1 Q' := by
      intro Q' hQ'
      refine k_build pol (zN ru am ra pol L) L T H (zcp ru ra T H) m (Or.inl rfl) (b1.fr (e1 1 (by omega))) (b2.fr (e1 16 (by omega)) (e1 17 (by omega)) (e1 18 (by omega))) (b3.fr (e1 55 (by omega))) hT2 hH (zcp_in hr (hra0 T H hT2 hH)) hMd o5 o6 (by omega) (fun _ de' e t h q1 q2 => ?_) (fun q0 _ t h q1 q2 q3 => ?_) (fun q => by omega) (fun _ => hzN L (by omega)) (fun ρ f1 f2 f3 => hQ' ρ f1 f2 (f3 T H (Nat.le_refl _) hT2 (Nat.le_refl _) (by omega)).2.2.2.2) e9 e10 ey
      · rw [e1 55 (by omega), b4]
        exact hpol de' e t h q1 q2
      · rw [hfw L q0, e1 _ (by omega)]
        have := i3 (L - 1) (by omega) t h q1 q2 q3
        rw [show L - 1 + 1 = L by omega] at this
        exact this
    have fin : ∀ ρ : Mm, (∀ c, c ∉ bS 19 → ρ.1 c = τ1.1 c) → ρ.2 = τ1.2 → I (uI ρ (57 + 3 * i + L) (nd T H) (jI (zN ru am ra pol (L + 1) T H))) L T (H + 1) := by
      intro ρ f1 f2
      refine ⟨fun c hc => ?_, f2.trans (by rw [ht1]; exact i2), fun j hj t h q1 q2 q3 => ?_, fun t h q1 q2 q3 q4 => ?_⟩
      · have hc' := hc
        simp only [List.mem_append, List.mem_cons, List.not_mem_nil, or_false, not_or] at hc'
        rw [uI_n (by omega), f1 c hc'.2, e1 c hc'.1.2.2]
        exact i1 c hc
      · rw [uI_n (by omega), f1 _ (fun q => by have := mb _ q; omega), e1 _ (by omega)]
        exact i3 j hj t h q1 q2 q3
      · by_cases z : nd t h = nd T H
        · obtain ⟨z1, z2⟩ := nd_inj q3 hH z
          subst z1; subst z2
          exact uI_at _ _ _ _
        · rw [uI_ne (Or.inr z), f1 _ (fun q => by have := mb _ q; omega), e1 _ (by omega)]
          refine i4 t h q1 q2 q3 ?_
          rcases q4 with q | ⟨q, q'⟩
          · exact Or.inl q
          · refine Or.inr ⟨q, ?_⟩
            rcases Nat.lt_or_ge h H with w | w
            · exact w
            · exact absurd (by rw [q, show h = H by omega]) z
    have hLe : L = 0 ∨ L = 1 := by omega
    have hgo' := fun ρ f1 f2 => hgo _ (w10 + 1) (fin ρ f1 f2) (by rw [e10]; first | rfl | assumption | (simp only [jlit, jneg, jadd, jsub, jmul]; done) | (simp only [jlit, jneg, jadd, jsub, jmul]; congr 1 <;> omega) | (congr 1 <;> omega))
    rcases hmo with ⟨rfl, rfl, rfl, rfl⟩ | ⟨rfl, rfl, rfl, rfl⟩ <;> rcases hLe with rfl | rfl <;>
    · refine wX8_reckon [(135, [0, 3, 4, 5, 6, 7, 8, 9, 10])] 80 ?_
      refine brlt T H (fun q => by omega) (fun _ => ?_) e9 e10
      refine k_nodeOf T H ?_ e9 e10
      refine k_couponOfNode T H b1 b3 hT2 hH ?_
      subst ht1
      refine call _ (fun ρ f1 f2 f3 => ?_)
      refine ldN 2 _ rfl ?_ (hi := e8)
      refine ldI 91 (nd T H) f3 ?_
      refine stI 78 (nd T H) ?_
      exact hgo' ρ f1 f2
  have rowT : ∀ (n L T H : Nat) (τ : Mm) (w8 w9 w10 : Int32), H + n = T + 1 → L < 2 → ru 9 + ru 10 ≤ (T : Int) → (T : Int) < ru 1 → I τ L T H → w8 = jI L → w9 = jI T → w10 = jI H → (∀ τ' v, I τ' L (T + 1) 0 → v = jI ((T + 1 : Nat) : Int) → Wp l G (d + 5) mX8_reckon 121 [(0, .ref 15), (3, .int y), (4, .ref o), (5, .int (jI cp)), (6, .int (jI r)), (7, .ref (56 + 3 * i)), (8, .int w8), (9, .int v)] [] τ' Q) → Wp l G (d + 5) mX8_reckon 135 [(0, .ref 15), (3, .int y), (4, .ref o), (5, .int (jI cp)), (6, .int (jI r)), (7, .ref (56 + 3 * i)), (8, .int w8), (9, .int w9), (10, .int w10)] [] τ Q := by
    intro n
    induction n with
    | zero =>
      intro L T H τ w8 w9 w10 hn hL2 hT1 hT2 hI e8 e9 e10 hgo
      refine wX8_reckon [(121, [0, 3, 4, 5, 6, 7, 8, 9])] 40 ?_
      refine brlt T H (fun _ => ?_) (fun q => by omega) e9 e10
      exact hgo τ _ ⟨hI.1, hI.2.1, hI.2.2.1, fun t h q1 q2 q3 q4 => hI.2.2.2 t h q1 q2 q3 (by omega)⟩ (by rw [e9]; first | rfl | assumption | (simp only [jlit, jneg, jadd, jsub, jmul]; done) | (simp only [jlit, jneg, jadd, jsub, jmul]; congr 1 <;> omega) | (congr 1 <;> omega))
    | succ n ih =>
      intro L T H τ w8 w9 w10 hn hL2 hT1 hT2 hI e8 e9 e10 hgo
      exact step L T H τ w8 w9 w10 hL2 hT1 hT2 (by omega) hI e8 e9 e10 (fun τ' v hI' hv => ih L T (H + 1) τ' w8 w9 v (by omega) hL2 hT1 hT2 hI' e8 e9 hv hgo)
  have rows : ∀ (n L T : Nat) (τ : Mm) (w8 w9 : Int32), ru 1 ≤ (T : Int) + n → L < 2 → ru 9 + ru 10 ≤ (T : Int) → I τ L T 0 → w8 = jI L → w9 = jI T → (T : Int) ≤ 100 → (∀ τ' v, I τ' (L + 1) 0 0 → v = jI ((L + 1 : Nat) : Int) → Wp l G (d + 5) mX8_reckon 91 [(0, .ref 15), (3, .int y), (4, .ref o), (5, .int (jI cp)), (6, .int (jI r)), (7, .ref (56 + 3 * i)), (8, .int v)] [] τ' Q) → Wp l G (d + 5) mX8_reckon 121 [(0, .ref 15), (3, .int y), (4, .ref o), (5, .int (jI cp)), (6, .int (jI r)), (7, .ref (56 + 3 * i)), (8, .int w8), (9, .int w9)] [] τ Q := by
    have out : ∀ (L T : Nat) (τ : Mm) (w8 w9 : Int32), ru 1 ≤ (T : Int) → I τ L T 0 → w8 = jI L → w9 = jI T → (T : Int) ≤ 100 → (∀ τ' v, I τ' (L + 1) 0 0 → v = jI ((L + 1 : Nat) : Int) → Wp l G (d + 5) mX8_reckon 91 [(0, .ref 15), (3, .int y), (4, .ref o), (5, .int (jI cp)), (6, .int (jI r)), (7, .ref (56 + 3 * i)), (8, .int v)] [] τ' Q) → Wp l G (d + 5) mX8_reckon 121 [(0, .ref 15), (3, .int y), (4, .ref o), (5, .int (jI cp)), (6, .int (jI r)), (7, .ref (56 + 3 * i)), (8, .int w8), (9, .int w9)] [] τ Q := by
      intro L T τ w8 w9 hT hI e8 e9 hT9 hgo
      obtain ⟨b1, -⟩ := base τ hI.1
      refine wX8_reckon [(91, [0, 3, 4, 5, 6, 7, 8])] 40 ?_
      refine ldI 14 1 (b1.2 1 (by omega)) ?_
      refine brle (ru 1) T (fun _ => ?_) (fun q => by omega) rfl e9
      refine hgo τ _ ⟨hI.1, hI.2.1, fun j hj t h q1 q2 q3 => ?_, fun t h q1 q2 q3 q4 => by omega⟩ (by rw [e8]; first | rfl | assumption | (simp only [jlit, jneg, jadd, jsub, jmul]; done) | (simp only [jlit, jneg, jadd, jsub, jmul]; congr 1 <;> omega) | (congr 1 <;> omega))
      by_cases z : j = L
      · subst z
        exact hI.2.2.2 t h q1 q2 q3 (Or.inl (by omega))
      · exact hI.2.2.1 j (by omega) t h q1 q2 q3
    intro n
    induction n with
    | zero =>
      intro L T τ w8 w9 hn hL2 hT1 hI e8 e9 hT9 hgo
      exact out L T τ w8 w9 (by omega) hI e8 e9 hT9 hgo
    | succ n ih =>
      intro L T τ w8 w9 hn hL2 hT1 hI e8 e9 hT9 hgo
      by_cases hT : ru 1 ≤ (T : Int)
      · exact out L T τ w8 w9 hT hI e8 e9 hT9 hgo
      · obtain ⟨b1, -⟩ := base τ hI.1
        refine wX8_reckon [(135, [0, 3, 4, 5, 6, 7, 8, 9, 10])] 40 ?_
        refine ldI 14 1 (b1.2 1 (by omega)) ?_
        refine brle (ru 1) T (fun q => by omega) (fun _ => ?_) rfl e9
        exact rowT (T + 1) L T 0 τ w8 w9 _ (by omega) hL2 hT1 (by omega) hI e8 e9 rfl (fun τ' v hI' hv => ih L (T + 1) τ' w8 v (by push_cast at hn ⊢; omega) hL2 (by push_cast; omega) hI' e8 hv (by push_cast; omega) hgo)
  have lvls : ∀ (n L : Nat) (τ : Mm) (w8 : Int32), max k r = L + n → k ≤ L → I τ L 0 0 → w8 = jI L → Wp l G (d + 5) mX8_reckon 91 [(0, .ref 15), (3, .int y), (4, .ref o), (5, .int (jI cp)), (6, .int (jI r)), (7, .ref (56 + 3 * i)), (8, .int w8)] [] τ Q := by
    intro n
    induction n with
    | zero =>
      intro L τ w8 hn hk1 hI e8
      refine wX8_reckon [(222, [0, 3, 4, 5, 6])] 40 ?_
      refine brle r L (fun _ => ?_) (fun q => by omega) rfl e8
      rw [show L = max k r by omega] at hI
      exact at222 τ hI
    | succ n ih =>
      intro L τ w8 hn hk1 hI e8
      obtain ⟨b1, -⟩ := base τ hI.1
      refine wX8_reckon [(121, [0, 3, 4, 5, 6, 7, 8, 9]), (222, [0, 3, 4, 5, 6])] 40 ?_
      refine brle r L (fun q => by omega) (fun _ => ?_) rfl e8
      refine brle 2 L (fun q => by omega) (fun _ => ?_) rfl e8
      refine ldI 14 9 (b1.2 9 (by omega)) ?_
      refine ldI 14 10 (b1.2 10 (by omega)) ?_
      refine rows (ru 1).toNat L (ru 9 + ru 10).toNat τ w8 _ (by omega) (by omega) (by omega) ⟨hI.1, hI.2.1, hI.2.2.1, fun t h q1 q2 q3 q4 => by omega⟩ e8 (by rw [jadd, hf0]) (by omega) (fun τ' v hI' hv => ih (L + 1) τ' v (by omega) (by omega) hI' hv)
  have hI0 : I σ k 0 0 := ⟨fun _ _ => rfl, rfl, hrows, fun t h q1 q2 q3 q4 => by omega⟩
  rcases hmo with ⟨rfl, rfl, rfl, rfl⟩ | ⟨rfl, rfl, rfl, rfl⟩
  · refine wX8_reckon [(91, [0, 3, 4, 5, 6, 7, 8])] 60 ?_
    refine breq 0 1 (fun q => absurd q (by decide)) (fun _ => ?_) ey
    refine ldI 2 0 hk ?_ (hi := ey)
    exact lvls (max k r - k) k σ _ (by omega) (Nat.le_refl _) hI0 rfl
  · refine wX8_reckon [(91, [0, 3, 4, 5, 6, 7, 8])] 60 ?_
    refine breq 1 1 (fun _ => ?_) (fun q => absurd rfl q) ey
    refine ldI 2 1 hk ?_ (hi := ey)
    exact lvls (max k r - k) k σ _ (by omega) (Nat.le_refl _) hI0 rfl
end KRe
