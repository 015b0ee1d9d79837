-- rounds: the class
def wAm (ru : Nat → Int) (V : Wk) (T H t h : Nat) : Int := if wC ru V t h ∧ (t < T ∨ t = T ∧ h < H) then wMe ru V t h else V.de t h
section KRo
variable {l : Launch} {G : GT} {d : Nat} {σ : Mm} {Q : Po} {ru : Nat → Int} {V : Wk}
theorem k_leastNt {o : Nat} {am : Nat → Int} {ra : Nat → Nat → Int} {pol : Option (Nat → Nat → Int)} {cp : Int} {N : Nat → Nat → Int} {x y : Int32} (t h r : Nat) (ho : Tb o) (hR : RC σ ru) (hN : Nt σ o ru am ra pol r cp N t h) (hT : (t : Int) < ru 1) (hh : h ≤ t) (hb : ∀ dd : Int, (dd = 0 ∨ (ru 9 ≤ t ∧ (t : Int) + ru 10 < ru 1) ∧ (dd = 1 ∨ dd = 2 ∧ 0 < r)) → 0 ≤ zcd ru am ra cp (zC ru am ra pol r cp N) N dd t h ∧ zcd ru am ra cp (zC ru am ra pol r cp N) N dd t h ≤ 1000000) (hq : Q (some (.int (jI (zbd ru am ra cp (zC ru am ra pol r cp N) N r t h)))) σ) (ex : x = jI (nd t h : Nat) := by first | rfl | assumption | (simp only [jlit, jneg, jadd, jsub, jmul]; done) | (simp only [jlit, jneg, jadd, jsub, jmul]; congr 1 <;> omega) | (congr 1 <;> omega)) (ey : y = jI (zla ru t r) := by first | rfl | assumption | (simp only [jlit, jneg, jadd, jsub, jmul]; done) | (simp only [jlit, jneg, jadd, jsub, jmul]; congr 1 <;> omega) | (congr 1 <;> omega)) : MW l G d mX8_leastDeed [.ref 15, .ref o, .int x, .int y] σ Q := by
  have hr := hR.1
  have hr' := hr
  unfold RB at hr'
  have hn2 := nd_lt2 (t := t) (h := h) (by omega) hh
  have zi : 0 ≤ zla ru t r ∧ zla ru t r ≤ 2 := by unfold zla; split <;> (try split) <;> omega
  have e1 : 1 ≤ zla ru t r → (ru 9 ≤ (t : Int) ∧ (t : Int) + ru 10 < ru 1) := fun z => by
    unfold zla at z
    split at z <;> omega
  have e2 : 2 ≤ zla ru t r → (ru 9 ≤ (t : Int) ∧ (t : Int) + ru 10 < ru 1) ∧ 0 < r := fun z => by
    unfold zla at z
    split at z
    · split at z <;> omega
    · omega
  have z0 := hb 0 (Or.inl rfl)
  rw [← zbd_al (al := zla ru t r) rfl] at hq
  refine k_leastDeed (nd t h) (zla ru t r) (zcd ru am ra cp (zC ru am ra pol r cp N) N 0 t h) (if 1 ≤ zla ru t r then zcd ru am ra cp (zC ru am ra pol r cp N) N 1 t h else 0) (if 2 ≤ zla ru t r then zcd ru am ra cp (zC ru am ra pol r cp N) N 2 t h else 0) ho hR (by omega) zi hN.1 (fun z => ?_) (fun z => ?_) (by omega) ?_ ?_ hq ex ey
  · rw [if_pos z]
    exact Nt_cost hr hN hT 1 (Or.inr ⟨e1 z, Or.inl rfl⟩)
  · rw [if_pos z]
    exact Nt_cost hr hN hT 2 (Or.inr ⟨(e2 z).1, Or.inr ⟨rfl, (e2 z).2⟩⟩)
  · split
    · next z =>
      have := hb 1 (Or.inr ⟨e1 z, Or.inl rfl⟩)
      omega
    · omega
  · split
    · next z =>
      have := hb 2 (Or.inr ⟨(e2 z).1, Or.inr ⟨rfl, (e2 z).2⟩⟩)
      omega
    · omega
theorem k_mendsTrial (hV : Kr σ 3 V) (hC : CI σ ru) (hB : WB ru V) (h6 : (V.t : Int) < ru 1)
    (hq : ∀ τ : Mm, (∀ c, c ≠ 3 → c ∉ rS → τ.1 c = σ.1 c) → τ.2 = σ.2 → CI τ ru → Kr τ 3 (mV ru V) → Q (some (.int (if mNu ru V = 0 then 0 else 1))) τ) : MW l G (d + 6) mX11_mendsTrial [.ref 0] σ Q := by
  have hr := hC.1.1
  have hr' := hr
  unfold RB at hr'
  have hB' := hB
  obtain ⟨b1, bc, b3, b4, b6, b7, b8, t1, t2, t3⟩ := hB'
  have ht : ((V.t : Nat) : Int) = V.f 0 := Int.toNat_of_nonneg (by omega)
  have hh : ((V.h : Nat) : Int) = V.f 1 := Int.toNat_of_nonneg (by omega)
  have hr3 : ((V.r : Nat) : Int) = V.f 3 := Int.toNat_of_nonneg b3.1
  have hht : V.h ≤ V.t := by omega
  have hle : ∀ T, T ≤ 12 → allN (mDf ru V) T ≤ 200 := fun T hT => by have := allN_le (mDf_le ru V) T hT; omega
  have hra : ∀ t h, 0 ≤ V.ra t h := fun t h => (t2 t h).1
  have cM : ∀ {t : Nat} (_ : (t : Int) < ru 1) {h : Nat} (_ : h ≤ t) (dd : Int) (_ : dd = 0 ∨ (ru 9 ≤ t ∧ (t : Int) + ru 10 < ru 1) ∧ (dd = 1 ∨ dd = 2 ∧ 0 < V.r)), 0 ≤ zcd ru V.am V.ra (V.f 2) (zco ru V.am V.ra (some V.de) V.r (V.f 2)) (zN ru V.am V.ra (some V.de) V.r) dd t h ∧ zcd ru V.am V.ra (V.f 2) (zco ru V.am V.ra (some V.de) V.r (V.f 2)) (zN ru V.am V.ra (some V.de) V.r) dd t h ≤ 1000000 := fun {t} q1 {h} q2 dd q3 => zcd_in2 (pol := some V.de) hr (fun j => (t1 j).1) (fun t h _ _ => hra t h) (fun de q t h _ _ => by simp at q; rw [← q]; exact t3 t h) bc (by omega) q1 q2 q3
  refine vX11_mendsTrial [(34, [0, 1, 2, 3, 4, 5])] 60 ?_
  refine k_reckonX 0 1 (V.f 2) V.r 43 1 (some V.de) (Or.inr ⟨rfl, rfl, rfl, by rw [hV.2.2.2.1]⟩) (Or.inr rfl) (by omega) hC hV.2.2.2.2 bc (by omega) (hV.1 2 (by omega)) (by rw [hr3]; exact hV.1 3 (by omega)) (fun τ1 m1 m2 m3 m4 m5 m6 m7 m8 m9 m10 => ?_)
  rw [hV.2.2.1, hV.2.1] at m8
  have V1 : Kr τ1 3 V := hV.fr (m4 3 (by decide))
  let I : Mm → Nat → Nat → Int32 → Prop := fun τ T H u => (∀ c, c ≠ 3 → τ.1 c = τ1.1 c) ∧ τ.2 = τ1.2 ∧ Kr τ 3 (V.deeds (wAm ru V T H)) ∧ u = (if allN (mDf ru V) T + rowN (mDf ru V T) H = 0 then 0 else 1)
  have inner : ∀ (n T h : Nat) (τ : Mm) (u a b : Int32), (h : Int) + n = V.f 1 + T - V.f 0 + 1 → V.h ≤ h → (T : Int) < ru 1 → V.f 0 ≤ T → I τ T h u → a = jI (T : Int) → b = jI (h : Int) → (∀ (ρ : Mm) u' b', I ρ (T + 1) 0 u' → Wp l G (d + 6) mX11_mendsTrial 131 [(0, .ref 0), (1, .ref 43), (2, .int (jI (V.t : Int))), (3, .int (jI (V.h : Int))), (4, .int u'), (5, .int a), (6, .int (jI (zla ru T V.r))), (7, .int b')] [] ρ Q) → Wp l G (d + 6) mX11_mendsTrial 63 [(0, .ref 0), (1, .ref 43), (2, .int (jI (V.t : Int))), (3, .int (jI (V.h : Int))), (4, .int u), (5, .int a), (6, .int (jI (zla ru T V.r))), (7, .int b)] [] τ Q := by
    intro n T
    induction n with
    | zero =>
      intro h τ u a b hn hh0 hT hT0 hI ha hb go
      obtain ⟨i1, i2, i3, i4⟩ := hI
      refine wX11_mendsTrial [(131, [0, 1, 2, 3, 4, 5, 6, 7])] 60 ?_
      refine brlt (V.h + T - V.t : Int) (h : Int) (fun _ => ?_) (fun z => by omega) (hx := by rw [ha, jadd, jsub])
      have e1 : rowN (mDf ru V T) (T + 1) = rowN (mDf ru V T) h := rowN_ext (T + 1) (by omega) (fun k h1 h2 => by
        unfold mDf
        rw [if_neg (fun z => by have := z.1; unfold wC at this; omega)])
      refine go τ u b ⟨i1, i2, ?_, ?_⟩
      · have e2 : wAm ru V (T + 1) 0 = wAm ru V T h := by
          funext t k
          unfold wAm
          have : (wC ru V t k ∧ (t < T + 1 ∨ t = T + 1 ∧ k < 0)) = (wC ru V t k ∧ (t < T ∨ t = T ∧ k < h)) := propext ⟨fun z => ⟨z.1, by have := z.1; unfold wC at this; omega⟩, fun z => ⟨z.1, by omega⟩⟩
          simp only [this]
        rw [e2]
        exact i3
      · rw [i4]
        show _ = (if allN (mDf ru V) T + rowN (mDf ru V T) (T + 1) + 0 = 0 then (0 : Int32) else 1)
        rw [e1]
        rfl
    | succ n ih =>
      intro h τ u a b hn hh0 hT hT0 hI ha hb go
      obtain ⟨i1, i2, i3, i4⟩ := hI
      have hc : wC ru V T h := ⟨by omega, hT, by omega, by omega, by omega⟩
      have hn2 := nd_lt2 (t := T) (h := h) (by omega) (by omega)
      have mein := wMe_in ru V T h
      have dein := t3 T h
      have hN : Nt τ 43 ru V.am V.ra (some V.de) V.r (V.f 2) (zN ru V.am V.ra (some V.de) V.r) T h := (m8 T h hT (by omega)).fr2 hr (fun c hc => i1 c (by rintro rfl; exact absurd hc (by decide)))
      have RCt : RC τ ru := m1.1.fr (i1 1 (by decide))
      have hwd : (V.deeds (wAm ru V T h)).de T h = V.de T h := by
        show wAm ru V T h T h = _
        unfold wAm
        rw [if_neg (fun z => by omega)]
      have hde : (τ.1 3 (103 + T) >>> ((2 * jI h) &&& 31)) &&& 3 = jI (V.de T h) := by
        have := (i3.2.2.2.2.DC hr T h hT (by omega)).1
        rw [this, i3.2.2.2.1, hwd]
      have ext : (fun i j => if i = T ∧ j = h then wMe ru V T h else wAm ru V T h i j) = wAm ru V T (h + 1) := by
        funext i j
        unfold wAm
        by_cases q : i = T ∧ j = h
        · obtain ⟨rfl, rfl⟩ := q
          rw [if_pos ⟨rfl, rfl⟩, if_pos ⟨hc, Or.inr ⟨rfl, by omega⟩⟩]
        · rw [if_neg q]
          by_cases q2 : wC ru V i j ∧ (i < T ∨ i = T ∧ j < h)
          · rw [if_pos q2, if_pos ⟨q2.1, by omega⟩]
          · rw [if_neg q2, if_neg (fun z => q2 ⟨z.1, by omega⟩)]
      have rs : rowN (mDf ru V T) (h + 1) = rowN (mDf ru V T) h + mDf ru V T h := rfl
      refine wX11_mendsTrial [(63, [0, 1, 2, 3, 4, 5, 6, 7])] 60 ?_
      refine brlt (V.h + T - V.t : Int) (h : Int) (fun z => by omega) (fun _ => ?_) (hx := by rw [ha, jadd, jsub])
      refine k_nodeOf T h ?_
      refine k_leastNt (o := 43) T h V.r (Or.inr (Or.inr (Or.inl rfl))) RCt hN hT (by omega) (fun dd q => cM hT (by omega) dd q) ?_
      refine k_deedOf T h (by decide) (by omega) hde ?_
      refine breq (wMe ru V T h) (V.de T h) (fun z => ?_) (fun z => ?_) (hx := rfl) (hy := rfl)
      · have h0 : mDf ru V T h = 0 := by
          unfold mDf
          rw [if_neg (fun q => q.2 z)]
        refine ih (h + 1) τ u _ _ (by omega) (by omega) hT hT0 ⟨i1, i2, ?_, ?_⟩ ha (by rw [hb]; first | rfl | assumption | (simp only [jlit, jneg, jadd, jsub, jmul]; done) | (simp only [jlit, jneg, jadd, jsub, jmul]; congr 1 <;> omega) | (congr 1 <;> omega)) go
        · rw [← ext]
          have e : (fun i j => if i = T ∧ j = h then wMe ru V T h else wAm ru V T h i j) = wAm ru V T h := by
            funext i j
            by_cases q : i = T ∧ j = h
            · obtain ⟨rfl, rfl⟩ := q
              rw [if_pos ⟨rfl, rfl⟩, z]
              exact hwd.symm
            · rw [if_neg q]
          rw [e]
          exact i3
        · rw [i4, rs, h0]
          rfl
      · have h1 : mDf ru V T h = 1 := by
          unfold mDf
          rw [if_pos ⟨hc, z⟩]
        refine k_setDeed T h (wMe ru V T h) (by decide) i3 (by omega) (by omega) mein (fun ρ p1 p2 p3 => ?_) (eu := rfl)
        refine ih (h + 1) ρ _ _ _ (by omega) (by omega) hT hT0 ⟨fun c hc => (p1 c hc).trans (i1 c hc), p2.trans i2, ?_, ?_⟩ ha (by rw [hb]; first | rfl | assumption | (simp only [jlit, jneg, jadd, jsub, jmul]; done) | (simp only [jlit, jneg, jadd, jsub, jmul]; congr 1 <;> omega) | (congr 1 <;> omega)) go
        · rw [← ext]
          exact p3
        · rw [rs, h1, if_neg (by omega)]
  have outer : ∀ (n T : Nat) (τ : Mm) (u a : Int32), T + n = (ru 1).toNat → V.f 0 ≤ T → I τ T 0 u → a = jI (T : Int) → Wp l G (d + 6) mX11_mendsTrial 34 [(0, .ref 0), (1, .ref 43), (2, .int (jI (V.t : Int))), (3, .int (jI (V.h : Int))), (4, .int u), (5, .int a)] [] τ Q := by
    intro n
    induction n with
    | zero =>
      intro T τ u a hn hT0 hI ha
      obtain ⟨i1, i2, i3, i4⟩ := hI
      refine wX11_mendsTrial [] 60 ?_
      refine ldI 14 1 (show _ = jI (ru 1) by rw [i1 1 (by decide)]; exact m1.1.2 1 (by omega)) ?_
      refine brle (ru 1) (T : Int) (fun _ => ?_) (fun z => by omega)
      have eN : mNu ru V = allN (mDf ru V) T + rowN (mDf ru V T) 0 := by
        unfold mNu
        rw [show (ru 1).toNat = T by omega]
        rfl
      have eV : wAm ru V T 0 = mDe ru V := by
        funext t k
        unfold wAm mDe
        by_cases q : wC ru V t k
        · rw [if_pos q, if_pos ⟨q, by unfold wC at q; omega⟩]
        · rw [if_neg q, if_neg (fun z => q z.1)]
      rw [eV] at i3
      have hq := hq τ (fun c q1 q2 => (i1 c q1).trans (m4 c q2)) (i2.trans m3) (m1.frS (i1 1 (by decide)) (fun c hc => i1 c (by rintro rfl; exact absurd hc (by decide)))) i3
      rw [eN, ← i4] at hq
      refine And.intro ?_ hq
      rw [i4]
      split
      · exact Or.inl rfl
      · exact Or.inr rfl
    | succ n ih =>
      intro T τ u a hn hT0 hI ha
      have hI' := hI
      obtain ⟨i1, i2, i3, i4⟩ := hI'
      have RCt : RC τ ru := m1.1.fr (i1 1 (by decide))
      refine wX11_mendsTrial [(63, [0, 1, 2, 3, 4, 5, 6, 7])] 60 ?_
      refine ldI 14 1 (RCt.2 1 (by omega)) ?_
      refine brle (ru 1) (T : Int) (fun z => by omega) (fun _ => ?_)
      refine k_lastAllowed (T : Int) (V.r : Int) RCt (by omega) (by omega) ?_ ha (by rw [i1 43 (by decide)]; exact m10.2.1)
      refine inner (T - V.t + 1) T V.h τ u a _ (by omega) (by omega) (by omega) hT0 ⟨i1, i2, ?_, ?_⟩ ha rfl (fun ρ u' b' hI' => ?_)
      · have e2 : wAm ru V T V.h = wAm ru V T 0 := by
          funext t k
          unfold wAm
          have : (wC ru V t k ∧ (t < T ∨ t = T ∧ k < V.h)) = (wC ru V t k ∧ (t < T ∨ t = T ∧ k < 0)) := propext ⟨fun z => ⟨z.1, by have := z.1; unfold wC at this; omega⟩, fun z => ⟨z.1, by omega⟩⟩
          simp only [this]
        rw [e2]
        exact i3
      · have e0 : rowN (mDf ru V T) V.h = 0 := rowN_zero V.h (fun k hk => by
          unfold mDf
          rw [if_neg (fun z => by have := z.1; unfold wC at this; omega)])
        rw [i4, e0]
        rfl
      · refine wX11_mendsTrial [(34, [0, 1, 2, 3, 4, 5])] 60 ?_
        exact ih (T + 1) ρ _ _ (by omega) (by omega) hI' (by rw [ha]; first | rfl | assumption | (simp only [jlit, jneg, jadd, jsub, jmul]; done) | (simp only [jlit, jneg, jadd, jsub, jmul]; congr 1 <;> omega) | (congr 1 <;> omega))
  refine ldI 115 0 (show _ = jI (V.t : Int) by rw [ht]; exact V1.1 0 (by omega)) ?_
  refine ldI 115 1 (show _ = jI (V.h : Int) by rw [hh]; exact V1.1 1 (by omega)) ?_
  refine outer ((ru 1).toNat - V.t) V.t τ1 _ _ (by omega) (by omega) ⟨fun _ _ => rfl, rfl, ?_, ?_⟩ rfl
  · have e : V.deeds (wAm ru V V.t 0) = V := by
      have : wAm ru V V.t 0 = V.de := by
        funext t k
        unfold wAm
        rw [if_neg (fun z => by have := z.1; unfold wC at this; omega)]
      rw [this]
      rfl
    rw [e]
    exact V1
  · rw [allN_zero V.t (fun t h q1 q2 => by unfold mDf; rw [if_neg (fun z => by have := z.1; unfold wC at this; omega)])]
    rfl
theorem k_rounds {W : Wk} (hK : KQ σ ru W) (hq : ∀ τ, QK σ τ → CI τ ru → Q (some (.int (jI (aRounds ru W)))) τ) : MW l G (d + 7) mX11_rounds [.ref 0] σ Q := by
  have h12 := hK.ru
  obtain ⟨hr3, r2, ht, hh, hht, _, h6t, bc⟩ := hK.r
  unfold aRounds at hq
  refine vX11_rounds [(26, [0, 1])] 60 ?_
  refine k_over hK ?_
  refine brz _ (fun q => ?_) (fun q => ?_)
  · rw [if_neg q] at hq
    have hT := h6t (by omega)
    refine cpI (σ := σ) 0 0 115 (by decide) (by decide) (by decide) (by decide) (by decide) (by decide) (by decide) (by decide) (h := fun τ1 eτ g1 g2 g3 => ?_)
    have K3 : Kr τ1 3 W := by
      rw [eτ]
      rw [eτ] at g3
      exact Kg.kr (hK.1.kg.fr (fun k hk => by rw [g3, if_pos (by omega), show 0 + (k - 0) = k by omega]))
    have C1 : CI τ1 ru := hK.2.1.frS (g2 1 (by decide)) (fun c hc => g2 c (by rintro rfl; exact absurd hc (by decide)))
    have F1 : QK σ τ1 := ⟨fun c qc => g2 c (fun z => qc (by rw [z]; decide)), fun c _ => by rw [g1]⟩
    have key : ∀ (n k : Nat) (τ : Mm) (V : Wk) (u : Int32), k + n = 21 → u = jI (k : Int) → QK σ τ → CI τ ru → Kr τ 3 V → WB ru V → (V.t : Int) < ru 1 → rdS ru 21 0 W = rdS ru n k V → Wp l G (d + 7) mX11_rounds 26 [(0, .ref 0), (1, .int u)] [] τ Q := by
      intro n
      induction n with
      | zero =>
        intro k τ V u hn hu F C hV hB hVt he
        have he : rdS ru 21 0 W = -1 := he
        have hq := hq τ F C
        rw [he] at hq
        refine wX11_rounds [] 60 ?_
        exact brlt 20 (k : Int) (fun _ => hq) (fun z => by omega) (hx := rfl) (hy := hu)
      | succ n ih =>
        intro k τ V u hn hu F C hV hB hVt he
        have es : rdS ru (n + 1) k V = if mNu ru V = 0 then (k : Int) else rdS ru n (k + 1) (mV ru V) := rfl
        refine wX11_rounds [(26, [0, 1])] 60 ?_
        refine brlt 20 (k : Int) (fun z => by omega) (fun _ => ?_) (hx := rfl) (hy := hu)
        refine k_mendsTrial hV C hB hVt (fun ρ p1 p2 p3 p4 => ?_)
        have F2 : QK σ ρ := F.tr ⟨fun c qc => p1 c (fun z => qc (by rw [z]; decide)) (rS_kA qc), fun c _ => by rw [p2]⟩
        by_cases z : mNu ru V = 0
        · rw [if_pos z]
          refine And.intro (fun _ => ?_) (fun w => absurd rfl w)
          have hq := hq ρ F2 p3
          rw [he, es, if_pos z, ← hu] at hq
          exact hq
        · rw [if_neg z]
          refine And.intro (fun w => absurd w (by decide)) (fun _ => ?_)
          refine ih (k + 1) ρ (mV ru V) _ (by omega) (by rw [hu]; first | rfl | assumption | (simp only [jlit, jneg, jadd, jsub, jmul]; done) | (simp only [jlit, jneg, jadd, jsub, jmul]; congr 1 <;> omega) | (congr 1 <;> omega)) F2 p3 p4 (mV_B hB) hVt ?_
          rw [he, es, if_neg z]
    have := key 21 0 τ1 W _ (by omega) rfl F1 C1 K3 hK.2.2 hT rfl
    rw [eτ] at this
    exact this
  · rw [if_pos q] at hq
    exact hq σ QK.rf hK.2.1
end KRo
