-- image, back of the class; acts of the reference
section KI
variable {l : Launch} {G : GT} {d : Nat} {σ : Mm} {Q : Po} {ru : Nat → Int} {H : Hs}
theorem k_keepImage (hC : HC σ H) (hK : Kr σ 2 H.W) (hq : ∀ τ : Mm, (∀ c, c ≠ 64 → c ≠ 67 → c ≠ 68 → τ.1 c = σ.1 c) → τ.2 = σ.2 → (∀ k, k < 7 → τ.1 64 k = σ.1 64 k) → IK τ (some (H.W, H.E, H.L)) → Q none τ) : MW l G (d + 1) mX2_keepImage [.ref 64, .ref 2] σ Q := by
  obtain ⟨n, n1, n2, a1, e1, a2, a3, h1, h2⟩ := hC
  refine vX2_keepImage [] 60 ?_
  refine cpI (σ := σ) 0 0 115 (by decide) (by decide) (by decide) (by decide) (by decide) (by decide) (by decide) (by decide) (h := fun τ eτ g1 g2 g3 => ?_)
  subst eτ
  refine cpI (σ := (uR σ 67 (va_cpy (σ.1 2) (σ.1 67) (0 : Int32).toNatClampNeg (0 : Int32).toNatClampNeg (115 : Int32).toNatClampNeg))) 0 0 300 (by decide) (by decide) (by decide) (by decide) (by decide) (by decide) (by decide) (by decide) (h := fun τ eτ p1 p2 p3 => ?_)
  subst eτ
  refine And.intro (Or.inr rfl) ?_
  refine hq _ (fun c q1 q2 q3 => by rw [uI_n q1, uI_n q1, p2 c q3, g2 c q2]) (p1.trans g1) (fun k hk => by rw [uI_ne (Or.inr (by omega)), uI_ne (Or.inr (by omega)), p2 64 (by decide), g2 64 (by decide)]) ⟨uI_at _ _ _ _, ?_, ?_, fun p q hp hp2 hq2 => ?_⟩
  · refine hK.kg.fr (fun k hk => ?_)
    rw [uI_n (by decide), uI_n (by decide), p2 67 (by decide), g3, if_pos (by omega), show 0 + (k - 0) = k by omega]
  · rw [uI_ne (Or.inr (by decide)), uI_at, p2 64 (by decide), g2 64 (by decide)]
    exact e1
  · have hp : p < H.E := hp
    have hp2 : H.E ≤ p + 60 := hp2
    have hm := Nat.mod_lt p (show 0 < 100 by omega)
    rw [uI_n (by decide), uI_n (by decide), p3, if_pos (by omega), g2 66 (by decide), show 0 + (3 * (p % 100) + q - 0) = 3 * (p % 100) + q by omega]
    exact h2 p q hp (by omega) hq2
theorem k_image (hH : HK σ ru H) (hq : ∀ τ : Mm, (∀ c, c ≠ 64 → c ≠ 67 → c ≠ 68 → τ.1 c = σ.1 c) → τ.2 = σ.2 → (∀ k, k < 7 → τ.1 64 k = σ.1 64 k) → IK τ (some (H.W, H.E, H.L)) → Q (some (.int (jI (H.W.f 7)))) τ) : MW l G (d + 2) mX11_image [.ref 0] σ Q := by
  have hr' := hH.2.1.1.1
  unfold RB at hr'
  refine vX11_image [] 60 ?_
  refine k_noLoan (ru 1) (hH.2.1.1.2 1 (by omega)) (by omega) ?_
  rw [if_neg (by omega)]
  refine And.intro (fun _ => ?_) (fun q => absurd rfl q)
  refine k_keepImage hH.2.2.1 hH.1 (fun τ g1 g2 g3 g4 => ?_)
  refine ldI 115 6 (show _ = jI (H.W.f 7) by rw [g1 2 (by decide) (by decide) (by decide)]; exact hH.1.1 6 (by omega)) ?_
  exact hq τ g1 g2 g3 g4
theorem k_image0 (h : σ.1 1 1 = 0) (hq : Q (some (.int (-1))) σ) : MW l G (d + 2) mX11_image [.ref 0] σ Q := by
  refine vX11_image [] 60 ?_
  refine k_noLoan 0 h (by omega) ?_
  exact And.intro (fun q => absurd q (by decide)) (fun _ => hq)
theorem k_bringBack (m : Im) (hC : HC σ H) (hM : IK σ (some m)) (hq : ∀ τ : Mm, (∀ c, c ≠ 2 → c ≠ 64 → c ≠ 66 → τ.1 c = σ.1 c) → τ.2 = σ.2 → (∀ k, 7 ≤ k → τ.1 64 k = σ.1 64 k) → Kr τ 2 m.1 → HC τ (hBack H m) → Q (some (.int 1)) τ) : MW l G (d + 1) mX2_bringBack [.ref 64, .ref 2] σ Q := by
  obtain ⟨n, n1, n2, a1, e1, a2, a3, h1, h2⟩ := hC
  obtain ⟨i1, i2, i3, i4⟩ := hM
  refine vX2_bringBack [] 60 ?_
  refine And.intro (fun q => absurd (i1.symm.trans q) (by decide)) (fun _ => ?_)
  refine cpI (σ := σ) 0 0 115 (by decide) (by decide) (by decide) (by decide) (by decide) (by decide) (by decide) (by decide) (h := fun τ eτ g1 g2 g3 => ?_)
  subst eτ
  refine cpI (σ := (uR σ 2 (va_cpy (σ.1 67) (σ.1 2) (0 : Int32).toNatClampNeg (0 : Int32).toNatClampNeg (115 : Int32).toNatClampNeg))) 0 0 300 (by decide) (by decide) (by decide) (by decide) (by decide) (by decide) (by decide) (by decide) (h := fun τ eτ p1 p2 p3 => ?_)
  subst eτ
  refine And.intro (Or.inr rfl) ?_
  refine hq _ (fun c q1 q2 q3 => by rw [uI_n q2, uI_n q2, p2 c q3, g2 c q1]) (p1.trans g1) (fun k hk => by rw [uI_ne (Or.inr (by omega)), uI_ne (Or.inr (by omega)), p2 64 (by decide), g2 64 (by decide)]) ?_ ⟨n, n1, ?_, uI_at _ _ _ _, ?_, by show 0 ≤ 40; omega, by show 0 ≤ m.2.1; omega, fun j hj => absurd (show j < 0 from hj) (by omega), fun p q hp hp2 hq2 => ?_⟩
  · refine Kg.kr (i2.fr (fun k hk => ?_))
    rw [uI_n (by decide), uI_n (by decide), p2 2 (by decide), g3, if_pos (by omega), show 0 + (k - 0) = k by omega]
  · rw [uI_ne (Or.inr (by decide)), uI_ne (Or.inr (by decide)), p2 64 (by decide), g2 64 (by decide)]
    exact n2
  · rw [uI_ne (Or.inr (by decide)), uI_at, p2 64 (by decide), g2 64 (by decide)]
    exact i3
  · have hp : p < m.2.1 := hp
    have hp2 : m.2.1 ≤ p + 0 + 60 := hp2
    have hm := Nat.mod_lt p (show 0 < 100 by omega)
    rw [uI_n (by decide), uI_n (by decide), p3, if_pos (by omega), g2 68 (by decide), show 0 + (3 * (p % 100) + q - 0) = 3 * (p % 100) + q by omega]
    exact i4 p q hp (by omega) hq2
theorem k_back (m : Im) (hC : HC σ H) (hM : IK σ (some m)) (hq : ∀ τ : Mm, (∀ c, c ≠ 2 → c ≠ 64 → c ≠ 66 → τ.1 c = σ.1 c) → τ.2 = σ.2 → (∀ k, 7 ≤ k → τ.1 64 k = σ.1 64 k) → Kr τ 2 m.1 → HC τ (hBack H m) → Q (some (.int (jI (m.1.f 7)))) τ) : MW l G (d + 2) mX11_back [.ref 0] σ Q := by
  refine vX11_back [] 60 ?_
  refine k_bringBack m hC hM (fun τ g1 g2 g3 g4 g5 => ?_)
  refine And.intro (fun q => absurd q (by decide)) (fun _ => ?_)
  refine ldI 115 6 (show _ = jI (m.1.f 7) from g4.1 6 (by omega)) ?_
  exact hq τ g1 g2 g3 g4 g5
theorem k_back0 (h : σ.1 64 8 = 0) (hq : Q (some (.int (-1))) σ) : MW l G (d + 2) mX11_back [.ref 0] σ Q := by
  have hb : ∀ Q' : Po, Q' (some (.int 0)) σ → MW l G (d + 1) mX2_bringBack [.ref 64, .ref 2] σ Q' := fun Q' h' => by
    refine vX2_bringBack [(9, [0, 1])] 60 ?_
    exact And.intro (fun _ => ⟨Or.inl rfl, h'⟩) (fun q => absurd h q)
  refine vX11_back [] 60 ?_
  refine hb _ ?_
  exact And.intro (fun _ => hq) (fun q => absurd rfl q)
end KI
section MAc
variable {l : Launch} {G : GT} {d : Nat} {σ : Mm} {Q : Po} {ru : Nat → Int} {H : Hs}
theorem FT.a {σ τ : Mm} (h : FT σ τ) : FA σ τ := h.y.a
theorem c_act {x y z u : Int32} (k a b c : Int) (hI : σ.1 98 17 = 1) (hE : ME σ ru) (hH : HM σ ru H) (hs : σ.1 98 27 = 0) (hB : WB ru H.W) (hk : 0 ≤ k ∧ k ≤ 9) (ra : R31 a) (rb : R31 b) (rc : R31 c)
    (hq : ∀ τ : Mm, (∀ a, a ∉ [98, 105, 108, 109, 111, 112, 113, 114] → τ.1 a = σ.1 a) → (∀ a, a ∉ [98, 112, 113, 114, 117] → τ.2 a = σ.2 a) → (∀ k, k ∉ [0, 24, 25, 33, 34] → τ.1 98 k = σ.1 98 k) → HM τ ru (hAct ru H k a b c) → (∀ j, τ.1 105 j = sUp (σ.1 105) 1 (wOut ru H.W k a b c).1 j) → Q (some (.int (jI (kAns ru H.W k a b c)))) τ)
    (ex : x = jI k := by first | rfl | assumption | (simp only [jlit, jneg, jadd, jsub, jmul]; done) | (simp only [jlit, jneg, jadd, jsub, jmul]; congr 1 <;> omega) | (congr 1 <;> omega)) (ey : y = jI a := by first | rfl | assumption | (simp only [jlit, jneg, jadd, jsub, jmul]; done) | (simp only [jlit, jneg, jadd, jsub, jmul]; congr 1 <;> omega) | (congr 1 <;> omega)) (ez : z = jI b := by first | rfl | assumption | (simp only [jlit, jneg, jadd, jsub, jmul]; done) | (simp only [jlit, jneg, jadd, jsub, jmul]; congr 1 <;> omega) | (congr 1 <;> omega)) (eu : u = jI c := by first | rfl | assumption | (simp only [jlit, jneg, jadd, jsub, jmul]; done) | (simp only [jlit, jneg, jadd, jsub, jmul]; congr 1 <;> omega) | (congr 1 <;> omega)) : MW l G (d + 13) mX12_act [.ref 98, .int x, .int y, .int z, .int u] σ Q := by
  have ho := wOut_in ru H.W k a b c
  have f0 : FA σ (uI σ 98 0 0) := FA.th
  refine vX12_act [] 60 ?_
  refine c_tries k a b c (by rw [f0.2.2 17 (by decide)]; exact hI) (hE.fr (f0.1 101 (by decide))) hH.th (by rw [f0.2.2 27 (by decide)]; exact hs) hB hk ra rb rc (fun τ g1 g2 g3 => ?_)
  have f1 := f0.tr g1.a
  have e105 : τ.1 105 = σ.1 105 := f1.1 105 (by decide)
  refine breq (wOut ru H.W k a b c).1 (-1) (fun hy => ?_) (fun hn => ?_)
  · have eN : kAns ru H.W k a b c = (wOut ru H.W k a b c).2.1 := by unfold kAns; rw [if_pos hy]
    rw [eN] at hq
    show Q (some (.int (τ.1 98 33))) τ
    rw [g3 hy]
    refine hq τ (fun a q => f1.1 a (fun z => q ?_)) f1.2.1 f1.2.2 g2 (fun j => ?_)
    · simp only [List.mem_cons, List.not_mem_nil, or_false] at z ⊢
      omega
    · rw [e105]
      unfold sUp
      rw [if_neg (fun z => z.2.1 hy)]
  · have eN : kAns ru H.W k a b c = -1 := by unfold kAns; rw [if_neg hn]
    rw [eN] at hq
    obtain ⟨n, en⟩ : ∃ n : Nat, (wOut ru H.W k a b c).1 = (n : Int) := ⟨(wOut ru H.W k a b c).1.toNat, by omega⟩
    refine ldI 4 n (show _ = σ.1 105 n by rw [e105]) ?_ (hi := by rw [en])
    refine stI 4 n ?_ (hi := by rw [en])
    refine hq _ (fun a q => ?_) (fun a q => ?_) (fun k q => ?_) ?_ (fun j => ?_)
    · simp only [List.mem_cons, List.not_mem_nil, or_false, not_or] at q
      rw [uI_n (by omega)]
      exact f1.1 a (by simp only [List.mem_cons, List.not_mem_nil, or_false, not_or]; omega)
    · exact f1.2.1 a q
    · rw [uI_n (by decide)]
      exact f1.2.2 k q
    · obtain ⟨h1, F, h2⟩ := g2
      exact ⟨by rw [uI_n (by decide)]; exact h1, F, h2.fr (by rw [uI_n (by decide)]) (by rw [uI_n (by decide)]) (by rw [uI_n (by decide)]) (fun _ _ _ _ => rfl)⟩
    · unfold sUp
      rw [en]
      by_cases q : j = n
      · subst q
        rw [uI_at, if_pos ⟨rfl, by omega, by omega⟩]
      · rw [uI_ne (Or.inr q), if_neg (fun z => q (by omega)), e105]
/-- no loan: nothing can be done -/
theorem c_act0 {x y z u : Int32} (hI : σ.1 98 17 = 0) (hq : ∀ τ : Mm, (∀ a, a ∉ [98, 105, 109] → τ.1 a = σ.1 a) → τ.2 = σ.2 → (∀ k, k ∉ [0, 27] → τ.1 98 k = σ.1 98 k) → τ.1 98 27 = 0 → (∀ j, τ.1 105 j = sUp (σ.1 105) 1 0 j) → Q (some (.int (-1))) τ) : MW l G (d + 13) mX12_act [.ref 98, .int x, .int y, .int z, .int u] σ Q := by
  have hst : ∀ (ρ : Mm) (Q' : Po), ρ.1 98 17 = 0 → Q' (some (.int 0)) ρ → MW l G (d + 10) mX12_stops [.ref 98, .ref 108, .int x, .int y, .int z, .int u] ρ Q' := fun ρ Q' h h' => by
    refine vX12_stops [(11, [0, 1, 2, 3, 4, 5])] 60 ?_
    refine c_isOver0 h ?_
    exact And.intro (fun q => absurd q (by decide)) (fun _ => h')
  have hdo : ∀ (ρ : Mm) (Q' : Po), ρ.1 98 17 = 0 → Q' (some (.int 0)) (uI ρ 98 27 0) → MW l G (d + 11) mX12_does [.ref 98, .ref 108, .int x, .int y, .int z, .int u] ρ Q' := fun ρ Q' h h' => by
    refine vX12_does [(27, [0, 1, 2, 3, 4, 5])] 60 ?_
    refine hst _ _ (by rw [uI_ne (Or.inr (by decide))]; exact h) ?_
    exact breq 0 (-1) (fun q => by omega) (fun _ => h')
  have htr : ∀ (ρ : Mm) (Q' : Po), ρ.1 98 17 = 0 → (∀ τ : Mm, (∀ a, a ≠ 98 → a ≠ 109 → τ.1 a = ρ.1 a) → τ.2 = ρ.2 → (∀ k, k ≠ 27 → τ.1 98 k = ρ.1 98 k) → τ.1 98 27 = 0 → Q' (some (.int 0)) τ) → MW l G (d + 12) mX12_tries [.ref 98, .int x, .int y, .int z, .int u] ρ Q' := fun ρ Q' h h' => by
    refine vX12_tries [(37, [0, 1])] 60 ?_
    refine c_copyRow 0 0 (by decide) (by decide) (by decide) (by decide) (by decide) (fun τ p1 p2 p3 => ?_)
    refine hdo _ _ (by rw [p2 98 (by decide)]; exact h) ?_
    refine breq 0 (-1) (fun q => by omega) (fun _ => ?_)
    exact h' _ (fun a q1 q2 => by rw [uI_n q1, p2 a q2]) p1 (fun k q => by rw [uI_ne (Or.inr q), p2 98 (by decide)]) (uI_at _ _ _ _)
  refine vX12_act [] 60 ?_
  refine htr _ _ (by rw [uI_ne (Or.inr (by decide))]; exact hI) (fun τ g1 g2 g3 g4 => ?_)
  refine breq 0 (-1) (fun q => by omega) (fun _ => ?_)
  have e105 : τ.1 105 = σ.1 105 := by rw [g1 105 (by decide) (by decide), uI_n (by decide)]
  refine ldI 4 0 (show _ = σ.1 105 0 by rw [e105]) ?_
  refine stI 4 0 ?_
  refine hq _ (fun a q => ?_) g2 (fun k q => ?_) ?_ (fun j => ?_)
  · simp only [List.mem_cons, List.not_mem_nil, or_false, not_or] at q
    rw [uI_n (by omega), g1 a (by omega) (by omega), uI_n (by omega)]
  · simp only [List.mem_cons, List.not_mem_nil, or_false, not_or] at q
    rw [uI_n (by decide), g3 k (by omega), uI_ne (Or.inr (by omega))]
  · rw [uI_n (by decide)]
    exact g4
  · unfold sUp
    by_cases q : j = 0
    · subst q
      rw [uI_at, if_pos ⟨rfl, by omega, rfl⟩]
    · rw [uI_ne (Or.inr q), if_neg (fun z => q z.2.2), e105]
end MAc
