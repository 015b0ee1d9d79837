-- rounds: the reference
def mDf (ru : Nat → Int) (V : Wk) (t h : Nat) : Nat := if wC ru V t h ∧ wMe ru V t h ≠ V.de t h then 1 else 0
def mNu (ru : Nat → Int) (V : Wk) : Nat := allN (mDf ru V) (ru 1).toNat
def mDe (ru : Nat → Int) (V : Wk) (t h : Nat) : Int := if wC ru V t h then wMe ru V t h else V.de t h
def mV (ru : Nat → Int) (V : Wk) : Wk := V.deeds (mDe ru V)
def rdS (ru : Nat → Int) : Nat → Nat → Wk → Int
  | 0, _, _ => -1
  | n + 1, k, V => if mNu ru V = 0 then (k : Int) else rdS ru n (k + 1) (mV ru V)
def aRounds (ru : Nat → Int) (W : Wk) : Int := if W.f 6 = 1 then -1 else rdS ru 21 0 W
theorem mDf_le (ru : Nat → Int) (V : Wk) (t h : Nat) : mDf ru V t h ≤ 1 := by unfold mDf; split <;> omega
theorem wMe_in (ru : Nat → Int) (V : Wk) (t h : Nat) : 0 ≤ wMe ru V t h ∧ wMe ru V t h ≤ 2 := by
  have : wMe ru V t h = 0 ∨ (ru 9 ≤ (t : Int) ∧ (t : Int) + ru 10 < ru 1) ∧ (wMe ru V t h = 1 ∨ wMe ru V t h = 2 ∧ 0 < (V.r : Int)) := zbd_in
  omega
theorem mV_B {ru : Nat → Int} {V : Wk} (hB : WB ru V) : WB ru (mV ru V) := by
  obtain ⟨b1, bc, b3, b4, b6, b7, b8, t1, t2, t3⟩ := hB
  refine ⟨b1, bc, b3, b4, b6, b7, b8, t1, t2, fun t h => ?_⟩
  show 0 ≤ mDe ru V t h ∧ mDe ru V t h ≤ 2
  unfold mDe
  split
  · exact wMe_in ru V t h
  · exact t3 t h
section MRo
variable {l : Launch} {G : GT} {d : Nat} {σ : Mm} {Q : Po} {ru : Nat → Int} {V : Wk}
theorem c_mendsAll (hE : ME σ ru) (hV : Mr σ ru 109 V) (hs : σ.1 98 27 = 0) (hB : WB ru V) (h6 : (V.t : Int) < ru 1)
    (hq : ∀ τ : Mm, (∀ a, a ∉ [109, 112, 113, 114, 121] → τ.1 a = σ.1 a) → (∀ a, a ∉ [112, 113, 114, 116] → τ.2 a = σ.2 a) → Mr τ ru 109 (mV ru V) → Q (some (.int (jI (mNu ru V : Int)))) τ) : MW l G (d + 11) mX12_mendsAll [.ref 98] σ Q := by
  have hr := hE.1
  have hr' := hr
  unfold RB at hr'
  have hB' := hB
  obtain ⟨b1, bc, b3, b4, b6, b7, b8, t1, t2, t3⟩ := hB'
  have ht : ((V.t : Nat) : Int) = V.f 0 := Int.toNat_of_nonneg (by omega)
  have hh : ((V.h : Nat) : Int) = V.f 1 := Int.toNat_of_nonneg (by omega)
  have hr3 : ((V.r : Nat) : Int) = V.f 3 := Int.toNat_of_nonneg b3.1
  have hle : ∀ T, T ≤ 12 → allN (mDf ru V) T ≤ 200 := fun T hT => by have := allN_le (mDf_le ru V) T hT; omega
  refine vX12_mendsAll [(17, [0, 1, 2])] 60 ?_
  refine c_laysPolicy (W := V) (Or.inr (Or.inl rfl)) hE hV hs hB (fun τ1 g1 g2 g3 g4 g5 => ?_)
  have V1 : Mr τ1 ru 109 V := hV.fr (fun k _ => by rw [g1 109 (by decide)]) hr
  have E1 : ME τ1 ru := hE.fr (g1 101 (by decide))
  have s1 : τ1.1 98 27 = 0 := by rw [g1 98 (by decide)]; exact hs
  -- the first pass: only 121 changes
  have inner : ∀ (n T h : Nat) (τ : Mm) (u a b : Int32), h + n = T + 1 → (T : Int) < ru 1 → V.f 0 ≤ T → (∀ c, c ≠ 121 → τ.1 c = τ1.1 c) → τ.2 = τ1.2 → u = jI ((allN (mDf ru V) T + rowN (mDf ru V T) h : Nat) : Int) → (∀ t k : Nat, V.t ≤ t → (t : Int) < ru 1 → k ≤ t → t < T ∨ t = T ∧ k < h → τ.1 121 (12 * t + k) = jI (mDe ru V t k)) → a = jI (T : Int) → b = jI (h : Int) → (∀ (ρ : Mm) u' b', (∀ c, c ≠ 121 → ρ.1 c = τ1.1 c) → ρ.2 = τ1.2 → u' = jI ((allN (mDf ru V) (T + 1) : Nat) : Int) → (∀ t k : Nat, V.t ≤ t → (t : Int) < ru 1 → k ≤ t → t < T + 1 → ρ.1 121 (12 * t + k) = jI (mDe ru V t k)) → Wp l G (d + 11) mX12_mendsAll 148 [(0, .ref 98), (1, .int u'), (2, .int a), (3, .int b')] [] ρ Q) → Wp l G (d + 11) mX12_mendsAll 29 [(0, .ref 98), (1, .int u), (2, .int a), (3, .int b)] [] τ Q := by
    intro n T
    induction n with
    | zero =>
      intro h τ u a b hn hT hT0 e1 e2 hu hd ha hb go
      refine wX12_mendsAll [(148, [0, 1, 2, 3])] 60 ?_
      refine brlt (T : Int) (h : Int) (fun _ => ?_) (fun z => by omega)
      refine go τ u b e1 e2 ?_ (fun t k q1 q2 q3 q4 => hd t k q1 q2 q3 (by omega))
      rw [hu, show h = T + 1 by omega]
      rfl
    | succ n ih =>
      intro h τ u a b hn hT hT0 e1 e2 hu hd ha hb go
      have Vt : Mr τ ru 109 V := V1.fr (fun k _ => by rw [e1 109 (by decide)]) hr
      have Et : ME τ ru := E1.fr (e1 101 (by decide))
      have st : τ.1 98 27 = 0 := by rw [e1 98 (by decide)]; exact s1
      have Lt : LY τ ru V.am := g3.fr (e1 112 (by decide)) (e1 113 (by decide)) (e1 114 (by decide))
      have hde := Vt.2.2.2 T h hT (by omega)
      have hal := hle T (by omega)
      have hrl := rowN_le (mDf_le ru V T) h
      have dein := t3 T h
      have mein := wMe_in ru V T h
      have rs : rowN (mDf ru V T) (h + 1) = rowN (mDf ru V T) h + mDf ru V T h := rfl
      have at107 : ∀ ρ : Mm, (∀ c, c ≠ 121 → ρ.1 c = τ1.1 c) → ρ.2 = τ1.2 → ρ.1 121 (12 * T + h) = jI (mDe ru V T h) → (∀ j, j ≠ 12 * T + h → ρ.1 121 j = τ.1 121 j) → (mDf ru V T h = 0 → mDe ru V T h = V.de T h) → (mDf ru V T h ≠ 0 → mDe ru V T h ≠ V.de T h) → (0 ≤ mDe ru V T h ∧ mDe ru V T h ≤ 2) → Wp l G (d + 11) mX12_mendsAll 107 [(0, .ref 98), (1, .int u), (2, .int a), (3, .int b)] [] ρ Q := by
        intro ρ p1 p2 p3 p4 z0 z1 zb
        have Vr : Mr ρ ru 109 V := V1.fr (fun k _ => by rw [p1 109 (by decide)]) hr
        have hde2 := Vr.2.2.2 T h hT (by omega)
        have hd2 : ∀ t k : Nat, V.t ≤ t → (t : Int) < ru 1 → k ≤ t → t < T ∨ t = T ∧ k < h + 1 → ρ.1 121 (12 * t + k) = jI (mDe ru V t k) := fun t k q1 q2 q3 q4 => by
          by_cases z : t = T ∧ k = h
          · obtain ⟨rfl, rfl⟩ := z
            exact p3
          · rw [p4 _ (by omega)]
            exact hd t k q1 q2 q3 (by omega)
        refine wX12_mendsAll [(29, [0, 1, 2, 3])] 60 ?_
        refine c_node (T : Int) (h : Int) ?_
        refine ldI 144 (12 * T + h) p3 ?_
        refine c_node (T : Int) (h : Int) ?_
        refine ldI 494 (169 + (12 * T + h)) hde2 ?_ (hi := by simp only [jlit, jadd]; congr 1)
        refine breq (mDe ru V T h) (V.de T h) (fun z => ?_) (fun z => ?_) (hx := rfl) (hy := rfl)
        · have zz : mDf ru V T h = 0 := by
            by_cases w : mDf ru V T h = 0
            · exact w
            · exact absurd z (z1 w)
          refine ih (h + 1) ρ _ _ _ (by omega) hT hT0 p1 p2 ?_ hd2 ha (by rw [hb]; first | rfl | assumption | (simp only [jlit, jneg, jadd, jsub, jmul]; done) | (simp only [jlit, jneg, jadd, jsub, jmul]; congr 1 <;> omega) | (congr 1 <;> omega)) go
          rw [hu, rs, zz]
          first | rfl | assumption | (simp only [jlit, jneg, jadd, jsub, jmul]; done) | (simp only [jlit, jneg, jadd, jsub, jmul]; congr 1 <;> omega) | (congr 1 <;> omega)
        · have zz : mDf ru V T h = 1 := by
            have := mDf_le ru V T h
            by_cases w : mDf ru V T h = 0
            · exact absurd (z0 w) z
            · omega
          refine ih (h + 1) ρ _ _ _ (by omega) hT hT0 p1 p2 ?_ hd2 ha (by rw [hb]; first | rfl | assumption | (simp only [jlit, jneg, jadd, jsub, jmul]; done) | (simp only [jlit, jneg, jadd, jsub, jmul]; congr 1 <;> omega) | (congr 1 <;> omega)) go
          rw [hu, rs, zz]
          first | rfl | assumption | (simp only [jlit, jneg, jadd, jsub, jmul]; done) | (simp only [jlit, jneg, jadd, jsub, jmul]; congr 1 <;> omega) | (congr 1 <;> omega)
      refine wX12_mendsAll [(107, [0, 1, 2, 3])] 60 ?_
      refine brlt (T : Int) (h : Int) (fun z => by omega) (fun _ => ?_)
      refine c_node (T : Int) (h : Int) ?_
      refine c_node (T : Int) (h : Int) ?_
      refine ldI 494 (169 + (12 * T + h)) hde ?_ (hi := by simp only [jlit, jadd]; congr 1)
      refine stI 144 (12 * T + h) ?_
      have n9 : ∀ (c : Nat) (v : Int32), c ≠ 121 → (uI τ 121 (12 * T + h) v).1 c = τ1.1 c := fun c v hc => by rw [uI_n hc]; exact e1 c hc
      refine c_canCome (W := V) (T : Int) (h : Int) (Or.inr (Or.inl rfl)) (by rw [uI_n (by decide)]; exact Vt.1 0 (by omega)) (by rw [uI_n (by decide)]; exact Vt.1 1 (by omega)) (by omega) (by omega) (by omega) (by omega) ?_
      refine brz _ (fun z => ?_) (fun z => ?_)
      · have nc : ¬ wC ru V T h := fun q => by unfold wC at q; omega
        have ed : mDe ru V T h = V.de T h := by unfold mDe; rw [if_neg nc]
        have ef : mDf ru V T h = 0 := by unfold mDf; rw [if_neg (fun q => nc q.1)]
        refine at107 _ (fun c hc => n9 c _ hc) e2 (by rw [uI_at, ed]) (fun j hj => by rw [uI_ne (Or.inr hj)]) (fun _ => ed) (fun q => absurd ef q) (by omega)
      · have hc : wC ru V T h := ⟨by omega, hT, by omega, by omega, by omega⟩
        have ed : mDe ru V T h = wMe ru V T h := by unfold mDe; rw [if_pos hc]
        have V2 : Mr (uI τ 121 (12 * T + h) (jI (V.de T h))) ru 109 V := V1.fr (fun k _ => by rw [n9 109 _ (by decide)]) hr
        have E2 : ME (uI τ 121 (12 * T + h) (jI (V.de T h))) ru := E1.fr (n9 101 _ (by decide))
        have s2 : (uI τ 121 (12 * T + h) (jI (V.de T h))).1 98 27 = 0 := by rw [n9 98 _ (by decide)]; exact s1
        refine c_node (T : Int) (h : Int) ?_
        refine ldI 494 3 (show _ = jI (V.r : Int) by rw [hr3]; exact V2.1 3 (by omega)) ?_
        refine ldI 494 2 (V2.1 2 (by omega)) ?_
        refine c_bestDeed (T := 116) V.r 0 T h (V.f 2) (zco ru V.am V.ra (some V.de) V.r (V.f 2)) (zN ru V.am V.ra (some V.de) V.r) (V2.PM E2 (Or.inr (Or.inl rfl)) s2) (g3.fr (n9 112 _ (by decide)) (n9 113 _ (by decide)) (n9 114 _ (by decide))) (by decide) (by omega) (by omega) hT (by omega) bc ?_ ?_ ?_
        · intro t k q1 q2 q3
          have := g4 V.r (Nat.le_refl _) t k (by omega) q2 q3
          show ((t : Int) < ru 1 → τ.2 116 _ = _) ∧ _
          rw [e2]
          exact this
        · intro q t k q1 q2
          have := g5 V.r (Nat.le_refl _) q t k q1 q2
          show τ.2 116 _ = _ ∧ _
          rw [e2]
          exact this
        · refine stI 144 (12 * T + h) ?_
          refine at107 _ (fun c hc => by rw [uI_n hc]; exact n9 c _ hc) e2 (by rw [uI_at, ed]; rfl) (fun j hj => by rw [uI_ne (Or.inr hj), uI_ne (Or.inr hj)]) (fun q => ?_) (fun q => ?_) (by omega)
          · rw [ed]
            unfold mDf at q
            by_cases w : wMe ru V T h = V.de T h
            · exact w
            · rw [if_pos ⟨hc, w⟩] at q
              omega
          · rw [ed]
            intro w
            apply q
            unfold mDf
            rw [if_neg (fun z => z.2 w)]
  -- the second pass: the deeds go into the row
  have inner2 : ∀ (n T h : Nat) (τ : Mm) (u a b : Int32), h + n = T + 1 → (T : Int) < ru 1 → V.f 0 ≤ T → (∀ c, c ≠ 109 → c ≠ 121 → τ.1 c = τ1.1 c) → τ.2 = τ1.2 → (∀ t k : Nat, V.t ≤ t → (t : Int) < ru 1 → k ≤ t → τ.1 121 (12 * t + k) = jI (mDe ru V t k)) → (∀ k, k < 169 → τ.1 109 k = τ1.1 109 k) → (∀ t k : Nat, (t : Int) < ru 1 → k ≤ t → τ.1 109 (169 + (12 * t + k)) = jI (if V.t ≤ t ∧ (t < T ∨ t = T ∧ k < h) then mDe ru V t k else V.de t k)) → a = jI (T : Int) → b = jI (h : Int) → (∀ (ρ : Mm) b', (∀ c, c ≠ 109 → c ≠ 121 → ρ.1 c = τ1.1 c) → ρ.2 = τ1.2 → (∀ t k : Nat, V.t ≤ t → (t : Int) < ru 1 → k ≤ t → ρ.1 121 (12 * t + k) = jI (mDe ru V t k)) → (∀ k, k < 169 → ρ.1 109 k = τ1.1 109 k) → (∀ t k : Nat, (t : Int) < ru 1 → k ≤ t → ρ.1 109 (169 + (12 * t + k)) = jI (if V.t ≤ t ∧ t < T + 1 then mDe ru V t k else V.de t k)) → Wp l G (d + 11) mX12_mendsAll 208 [(0, .ref 98), (1, .int u), (2, .int a), (3, .int b')] [] ρ Q) → Wp l G (d + 11) mX12_mendsAll 173 [(0, .ref 98), (1, .int u), (2, .int a), (3, .int b)] [] τ Q := by
    intro n T
    induction n with
    | zero =>
      intro h τ u a b hn hT hT0 e1 e2 hd e3 e4 ha hb go
      refine wX12_mendsAll [(208, [0, 1, 2, 3])] 60 ?_
      refine brlt (T : Int) (h : Int) (fun _ => ?_) (fun z => by omega)
      refine go τ b e1 e2 hd e3 (fun t k q1 q2 => ?_)
      rw [e4 t k q1 q2]
      have : (V.t ≤ t ∧ (t < T ∨ t = T ∧ k < h)) = (V.t ≤ t ∧ t < T + 1) := propext (by omega)
      simp only [this]
    | succ n ih =>
      intro h τ u a b hn hT hT0 e1 e2 hd e3 e4 ha hb go
      refine wX12_mendsAll [(173, [0, 1, 2, 3])] 60 ?_
      refine brlt (T : Int) (h : Int) (fun z => by omega) (fun _ => ?_)
      refine c_node (T : Int) (h : Int) ?_
      refine c_node (T : Int) (h : Int) ?_
      refine ldI 144 (12 * T + h) (hd T h (by omega) hT (by omega)) ?_
      refine stI 494 (169 + (12 * T + h)) ?_ (hi := by simp only [jlit, jadd]; congr 1)
      refine ih (h + 1) _ u _ _ (by omega) hT hT0 (fun c q1 q2 => by rw [uI_n q1]; exact e1 c q1 q2) e2 (fun t k q1 q2 q3 => by rw [uI_n (by decide)]; exact hd t k q1 q2 q3) (fun k hk => by rw [uI_ne (Or.inr (by omega))]; exact e3 k hk) (fun t k q1 q2 => ?_) ha (by rw [hb]; first | rfl | assumption | (simp only [jlit, jneg, jadd, jsub, jmul]; done) | (simp only [jlit, jneg, jadd, jsub, jmul]; congr 1 <;> omega) | (congr 1 <;> omega)) go
      by_cases z : t = T ∧ k = h
      · obtain ⟨rfl, rfl⟩ := z
        rw [uI_at, if_pos (by omega)]
      · rw [uI_ne (Or.inr (by omega)), e4 t k q1 q2]
        have : (V.t ≤ t ∧ (t < T ∨ t = T ∧ k < h)) = (V.t ≤ t ∧ (t < T ∨ t = T ∧ k < h + 1)) := propext (by omega)
        simp only [this]
  have outer2 : ∀ (n T : Nat) (τ : Mm) (u a : Int32), T + n = (ru 1).toNat → V.f 0 ≤ T → (∀ c, c ≠ 109 → c ≠ 121 → τ.1 c = τ1.1 c) → τ.2 = τ1.2 → u = jI (mNu ru V : Int) → (∀ t k : Nat, V.t ≤ t → (t : Int) < ru 1 → k ≤ t → τ.1 121 (12 * t + k) = jI (mDe ru V t k)) → (∀ k, k < 169 → τ.1 109 k = τ1.1 109 k) → (∀ t k : Nat, (t : Int) < ru 1 → k ≤ t → τ.1 109 (169 + (12 * t + k)) = jI (if V.t ≤ t ∧ t < T then mDe ru V t k else V.de t k)) → a = jI (T : Int) → Wp l G (d + 11) mX12_mendsAll 161 [(0, .ref 98), (1, .int u), (2, .int a)] [] τ Q := by
    intro n
    induction n with
    | zero =>
      intro T τ u a hn hT0 e1 e2 hu hd e3 e4 ha
      refine wX12_mendsAll [] 60 ?_
      refine ldI 14 1 ((E1.fr (e1 101 (by decide) (by decide))).2 1 (by omega)) ?_
      refine brle (ru 1) (T : Int) (fun _ => ?_) (fun z => by omega)
      rw [hu]
      refine hq τ (fun a qa => ?_) (fun a qb => ?_) ?_
      · simp only [List.mem_cons, List.not_mem_nil, or_false, not_or] at qa
        rw [e1 a (by omega) (by omega)]
        exact g1 a (by simp only [List.mem_cons, List.not_mem_nil, or_false, not_or]; omega)
      · simp only [List.mem_cons, List.not_mem_nil, or_false, not_or] at qb
        rw [e2]
        exact g2 a (by simp only [List.mem_cons, List.not_mem_nil, or_false, not_or]; omega) (by omega)
      · refine ⟨fun k hk => by rw [e3 k (by omega)]; exact V1.1 k hk, fun j hj => by rw [e3 _ (by omega)]; exact V1.2.1 j hj, fun t k q1 q2 => by rw [e3 _ (by omega)]; exact V1.2.2.1 t k q1 q2, fun t k q1 q2 => ?_⟩
        rw [e4 t k q1 q2]
        show _ = jI (mDe ru V t k)
        by_cases z : V.t ≤ t ∧ t < T
        · rw [if_pos z]
        · rw [if_neg z]
          unfold mDe
          rw [if_neg (fun q => by unfold wC at q; omega)]
    | succ n ih =>
      intro T τ u a hn hT0 e1 e2 hu hd e3 e4 ha
      refine wX12_mendsAll [(173, [0, 1, 2, 3])] 60 ?_
      refine ldI 14 1 ((E1.fr (e1 101 (by decide) (by decide))).2 1 (by omega)) ?_
      refine brle (ru 1) (T : Int) (fun z => by omega) (fun _ => ?_)
      refine inner2 (T + 1) T 0 τ u a _ (by omega) (by omega) hT0 e1 e2 hd e3 (fun t k q1 q2 => ?_) ha rfl (fun ρ b' p1 p2 p3 p4 p5 => ?_)
      · rw [e4 t k q1 q2]
        have : (V.t ≤ t ∧ t < T) = (V.t ≤ t ∧ (t < T ∨ t = T ∧ k < 0)) := propext (by omega)
        simp only [this]
      · refine wX12_mendsAll [(161, [0, 1, 2])] 60 ?_
        exact ih (T + 1) ρ u _ (by omega) (by omega) p1 p2 hu p3 p4 p5 (by rw [ha]; first | rfl | assumption | (simp only [jlit, jneg, jadd, jsub, jmul]; done) | (simp only [jlit, jneg, jadd, jsub, jmul]; congr 1 <;> omega) | (congr 1 <;> omega))
  have outer : ∀ (n T : Nat) (τ : Mm) (u a : Int32), T + n = (ru 1).toNat → V.f 0 ≤ T → (∀ c, c ≠ 121 → τ.1 c = τ1.1 c) → τ.2 = τ1.2 → u = jI ((allN (mDf ru V) T : Nat) : Int) → (∀ t k : Nat, V.t ≤ t → (t : Int) < ru 1 → k ≤ t → t < T → τ.1 121 (12 * t + k) = jI (mDe ru V t k)) → a = jI (T : Int) → Wp l G (d + 11) mX12_mendsAll 17 [(0, .ref 98), (1, .int u), (2, .int a)] [] τ Q := by
    intro n
    induction n with
    | zero =>
      intro T τ u a hn hT0 e1 e2 hu hd ha
      have Vt : Mr τ ru 109 V := V1.fr (fun k _ => by rw [e1 109 (by decide)]) hr
      refine wX12_mendsAll [(161, [0, 1, 2])] 60 ?_
      refine ldI 14 1 ((E1.fr (e1 101 (by decide))).2 1 (by omega)) ?_
      refine brle (ru 1) (T : Int) (fun _ => ?_) (fun z => by omega)
      refine ldI 494 0 (show _ = jI (V.t : Int) by rw [ht]; exact Vt.1 0 (by omega)) ?_
      refine outer2 ((ru 1).toNat - V.t) V.t τ u _ (by omega) (by omega) (fun c _ q => e1 c q) e2 ?_ (fun t k q1 q2 q3 => hd t k q1 q2 q3 (by omega)) (fun k _ => by rw [e1 109 (by decide)]) (fun t k q1 q2 => ?_) rfl
      · rw [hu]
        unfold mNu
        rw [show (ru 1).toNat = T by omega]
      · rw [if_neg (by omega)]
        exact Vt.2.2.2 t k q1 q2
    | succ n ih =>
      intro T τ u a hn hT0 e1 e2 hu hd ha
      refine wX12_mendsAll [(29, [0, 1, 2, 3])] 60 ?_
      refine ldI 14 1 ((E1.fr (e1 101 (by decide))).2 1 (by omega)) ?_
      refine brle (ru 1) (T : Int) (fun z => by omega) (fun _ => ?_)
      refine inner (T + 1) T 0 τ u a _ (by omega) (by omega) hT0 e1 e2 hu (fun t k q1 q2 q3 q4 => hd t k q1 q2 q3 (by omega)) ha rfl (fun ρ u' b' p1 p2 p3 p4 => ?_)
      refine wX12_mendsAll [(17, [0, 1, 2])] 60 ?_
      exact ih (T + 1) ρ _ _ (by omega) (by omega) p1 p2 p3 p4 (by rw [ha]; first | rfl | assumption | (simp only [jlit, jneg, jadd, jsub, jmul]; done) | (simp only [jlit, jneg, jadd, jsub, jmul]; congr 1 <;> omega) | (congr 1 <;> omega))
  refine ldI 494 0 (show _ = jI (V.t : Int) by rw [ht]; exact V1.1 0 (by omega)) ?_
  refine outer ((ru 1).toNat - V.t) V.t τ1 _ _ (by omega) (by omega) (fun _ _ => rfl) rfl ?_ (fun t k q1 q2 q3 q4 => by omega) rfl
  rw [allN_zero V.t (fun t h q1 q2 => by unfold mDf; rw [if_neg (fun z => by have := z.1; unfold wC at this; omega)])]
  rfl
theorem c_rounds {W : Wk} (hM : RM σ ru W) (hq : ∀ τ, Qf σ τ → Q (some (.int (jI (aRounds ru W)))) τ) : MW l G (d + 12) mX12_rounds [.ref 98] σ Q := by
  have f0 : Qf σ (uI σ 98 0 0) := Qf.rf.u8 (by decide)
  have M0 := hM.fr f0
  have hr := hM.2.1.1
  have hW := hM.2.2.2.2
  have hW' := hW
  unfold WB at hW'
  obtain ⟨hr3, r2, ht, hh, hht⟩ := hM.r
  unfold aRounds at hq
  refine vX12_rounds [(33, [0, 1])] 60 ?_
  refine c_over M0 ?_
  refine brz _ (fun q => ?_) (fun q => ?_)
  · rw [if_neg q] at hq
    have hT := hW'.2.2.2.2.2.1 (by omega)
    refine c_copyRow 0 0 (by decide) (by decide) (by decide) (by decide) (by decide) (fun τ1 g1 g2 g3 => ?_)
    have F1 : Qf σ τ1 := f0.tr ⟨fun a qa => g2 a (fun z => qa (by rw [z]; decide)), fun a _ => by rw [g1], fun k _ => by rw [g2 98 (by decide)]⟩
    have R9 : Mr τ1 ru 109 W := by
      have h3 := hM.2.2.1
      have e : ∀ k, k < 494 → τ1.1 109 k = σ.1 108 k := fun k hk => by rw [g3, if_pos (by omega), show 0 + (k - 0) = k by omega, uI_n (by decide)]
      exact Mr.de0 (D := W.de) h3 (fun k hk => e k (by omega)) (fun t h p1 p2 => by
        unfold RB at hr
        rw [e _ (by omega)]
        exact h3.2.2.2 t h p1 p2) hr
    have key : ∀ (n k : Nat) (τ : Mm) (V : Wk) (u : Int32), k + n = 21 → u = jI (k : Int) → Qf σ τ → Mr τ ru 109 V → WB ru V → (V.t : Int) < ru 1 → rdS ru 21 0 W = rdS ru n k V → Wp l G (d + 12) mX12_rounds 33 [(0, .ref 98), (1, .int u)] [] τ Q := by
      intro n
      induction n with
      | zero =>
        intro k τ V u hn hu F hV hB hVt he
        have he : rdS ru 21 0 W = -1 := he
        have hq := hq τ F
        rw [he] at hq
        refine wX12_rounds [] 60 ?_
        exact brlt 20 (k : Int) (fun _ => hq) (fun z => by omega) (hx := rfl) (hy := hu)
      | succ n ih =>
        intro k τ V u hn hu F hV hB hVt he
        have es : rdS ru (n + 1) k V = if mNu ru V = 0 then (k : Int) else rdS ru n (k + 1) (mV ru V) := rfl
        have M1 := hM.fr F
        refine wX12_rounds [(33, [0, 1])] 60 ?_
        refine brlt 20 (k : Int) (fun z => by omega) (fun _ => ?_) (hx := rfl) (hy := hu)
        refine c_mendsAll M1.2.1 hV M1.2.2.2.1 hB hVt (fun ρ p1 p2 p3 => ?_)
        have F2 : Qf σ ρ := F.tr ⟨fun a qa => by
          simp only [qA, List.mem_cons, List.not_mem_nil, or_false, not_or] at qa
          exact p1 a (by simp only [List.mem_cons, List.not_mem_nil, or_false, not_or]; omega), fun a qb => by
          simp only [qB, List.mem_cons, List.not_mem_nil, or_false, not_or] at qb
          exact p2 a (by simp only [List.mem_cons, List.not_mem_nil, or_false, not_or]; omega), fun k _ => by rw [p1 98 (by decide)]⟩
        have hle : mNu ru V ≤ 200 := by
          unfold RB at hr
          have := allN_le (mDf_le ru V) (ru 1).toNat (by omega)
          unfold mNu
          omega
        refine breq (mNu ru V : Int) 0 (fun z => ?_) (fun z => ?_) (hx := rfl) (hy := rfl)
        · have hq := hq ρ F2
          rw [he, es, if_pos (by omega), ← hu] at hq
          exact hq
        · refine ih (k + 1) ρ (mV ru V) _ (by omega) (by rw [hu]; first | rfl | assumption | (simp only [jlit, jneg, jadd, jsub, jmul]; done) | (simp only [jlit, jneg, jadd, jsub, jmul]; congr 1 <;> omega) | (congr 1 <;> omega)) F2 p3 (mV_B hB) hVt ?_
          rw [he, es, if_neg (by omega)]
    exact key 21 0 τ1 W _ (by omega) rfl F1 R9 hW (by omega) rfl
  · rw [if_pos q] at hq
    exact hq _ f0
end MRo
