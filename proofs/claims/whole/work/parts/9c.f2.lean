-- masses, behind all years: the reference
def nY (ru : Nat → Int) (W : Wk) : Nat := (ru 1).toNat - W.t
def MF (σ : Mm) (ru : Nat → Int) (W : Wk) : Prop :=
  (∀ j h, ((W.t + j : Nat) : Int) < ru 1 → h ≤ W.t + j → σ.1 120 (12 * (W.t + j) + h) = mA ru W j h) ∧
  σ.1 98 41 = allS W.t (gD ru W 1) (nY ru W) ∧ σ.1 98 42 = allS W.t (gD ru W 2) (nY ru W) ∧
  σ.1 98 43 = rowS (gD ru W 0 (nY ru W - 1)) (ru 1).toNat
theorem MI_next {σ : Mm} {ru : Nat → Int} {W : Wk} {k : Nat} (h : MI σ ru W k (W.t + k + 1)) (hw : W.h ≤ W.t) (hn : ((W.t + k + 1 : Nat) : Int) < ru 1) : MI σ ru W (k + 1) 0 := by
  obtain ⟨i1, i2, i3, i4, i5, i6⟩ := h
  refine ⟨fun j h q1 q2 => ?_, fun q1 h q2 => ?_, fun t h q1 q2 q3 => i3 t h (by omega) q2 q3, ?_, ?_, ?_⟩
  · by_cases z : j = k + 1
    · subst z
      rw [show W.t + (k + 1) = W.t + k + 1 by omega, i2 hn h (by omega)]
      exact mP_all ru W k (W.t + k + 1) h (by omega) (by omega)
    · exact i1 j h (by omega) q2
  · rw [show W.t + (k + 1) + 1 = W.t + k + 1 + 1 by omega]
    rw [i3 (W.t + k + 1 + 1) h (by omega) (by omega) (by omega)]
    unfold mP
    rw [if_neg (by omega), if_neg (by omega)]
    rfl
  · rw [i4]
    show allS W.t (gD ru W 1) k + rowS (gD ru W 1 k) (W.t + k + 1) = allS W.t (gD ru W 1) k + rowS (gD ru W 1 k) (W.t + k + 1) + 0
    simp
  · rw [i5]
    show allS W.t (gD ru W 2) k + rowS (gD ru W 2 k) (W.t + k + 1) = allS W.t (gD ru W 2) k + rowS (gD ru W 2 k) (W.t + k + 1) + 0
    simp
  · rw [i6, if_neg (by omega)]
    split <;> rfl
theorem MI_end {σ : Mm} {ru : Nat → Int} {W : Wk} {k : Nat} (h : MI σ ru W k (W.t + k + 1)) (hn : ((W.t + k + 1 : Nat) : Int) = ru 1) : MF σ ru W := by
  obtain ⟨i1, i2, i3, i4, i5, i6⟩ := h
  have e : nY ru W = k + 1 := by unfold nY; omega
  have e2 : (ru 1).toNat = W.t + k + 1 := by omega
  refine ⟨fun j h q1 q2 => i1 j h (by omega) q2, ?_, ?_, ?_⟩
  · rw [i4, e]
    rfl
  · rw [i5, e]
    rfl
  · rw [i6, if_pos (by omega), e, e2]
    rfl
section MMb
variable {l : Launch} {G : GT} {d : Nat} {σ : Mm} {Q : Po} {ru : Nat → Int} {W : Wk}
theorem c_laysMasses (hM : RM σ ru W) (h6 : W.f 6 = 0) (hq : ∀ τ, Qf σ τ → LY τ ru W.am → TB τ 115 ru W.r 0 0 (zco ru W.am W.ra none W.r (W.f 2)) → TN τ 115 ru W.r (zN ru W.am W.ra none W.r) → MF τ ru W → Q none τ) : MW l G (d + 11) mX12_laysMasses [.ref 98] σ Q := by
  obtain ⟨hr3, r2, ht, hh, hht⟩ := hM.r
  have hr := hM.2.1.1
  have hr' := hr
  unfold RB at hr'
  have hW := hM.2.2.2.2
  unfold WB at hW
  have hT := hW.2.2.2.2.2.1 h6
  refine vX12_laysMasses [(6, [0, 1])] 60 ?_
  refine c_laysNow hM (fun τ1 F1 L1 g3 g4 => ?_)
  have g3 := g3 W.r (Nat.le_refl _)
  have g4 := g4 W.r (Nat.le_refl _)
  -- behind the zeros
  have main : ∀ τ : Mm, (∀ a, a ≠ 98 → a ≠ 120 → τ.1 a = τ1.1 a) → τ.2 = τ1.2 → (∀ k, k ≠ 41 → k ≠ 42 → k ≠ 43 → τ.1 98 k = τ1.1 98 k) → Qf σ τ ∧ RM τ ru W ∧ LY τ ru W.am ∧ TB τ 115 ru W.r 0 0 (zco ru W.am W.ra none W.r (W.f 2)) ∧ TN τ 115 ru W.r (zN ru W.am W.ra none W.r) := by
    intro τ e1 e2 e3
    have F : Qf τ1 τ := ⟨fun a qa => by
      simp only [qA, List.mem_cons, List.not_mem_nil, or_false, not_or] at qa
      exact e1 a (by omega) (by omega), fun a _ => by rw [e2], fun k qk => by
      simp only [qK, List.mem_cons, List.not_mem_nil, or_false, not_or] at qk
      exact e3 k (by omega) (by omega) (by omega)⟩
    have F2 := F1.tr F
    refine ⟨F2, hM.fr F2, L1.fr (e1 112 (by decide) (by decide)) (e1 113 (by decide) (by decide)) (e1 114 (by decide) (by decide)), fun t h q1 q2 q3 => ?_, fun q t h q1 q2 => ?_⟩
    · rw [e2]
      exact g3 t h q1 q2 q3
    · rw [e2]
      exact g4 q t h q1 q2
  have inner : ∀ (n k H : Nat) (τ : Mm) (a b : Int32), H + n = W.t + k + 1 → ((W.t + k : Nat) : Int) < ru 1 → (∀ a, a ≠ 98 → a ≠ 120 → τ.1 a = τ1.1 a) → τ.2 = τ1.2 → (∀ k, k ≠ 41 → k ≠ 42 → k ≠ 43 → τ.1 98 k = τ1.1 98 k) → MI τ ru W k H → a = jI ((W.t + k : Nat) : Int) → b = jI (H : Int) → (∀ (ρ : Mm) b', (∀ a, a ≠ 98 → a ≠ 120 → ρ.1 a = τ1.1 a) → ρ.2 = τ1.2 → (∀ k, k ≠ 41 → k ≠ 42 → k ≠ 43 → ρ.1 98 k = τ1.1 98 k) → MI ρ ru W k (W.t + k + 1) → Wp l G (d + 11) mX12_laysMasses 100 [(0, .ref 98), (1, .int a), (2, .int b')] [] ρ Q) → Wp l G (d + 11) mX12_laysMasses 83 [(0, .ref 98), (1, .int a), (2, .int b)] [] τ Q := by
    intro n k
    induction n with
    | zero =>
      intro H τ a b hn hk e1 e2 e3 hI ha hb go
      refine wX12_laysMasses [(100, [0, 1, 2])] 60 ?_
      refine brlt ((W.t + k : Nat) : Int) (H : Int) (fun _ => ?_) (fun z => by omega)
      rw [show H = W.t + k + 1 by omega] at hI
      exact go τ b e1 e2 e3 hI
    | succ n ih =>
      intro H τ a b hn hk e1 e2 e3 hI ha hb go
      obtain ⟨m1, m2, m3, m4, m5⟩ := main τ e1 e2 e3
      refine wX12_laysMasses [(83, [0, 1, 2])] 60 ?_
      refine brlt ((W.t + k : Nat) : Int) (H : Int) (fun z => by omega) (fun _ => ?_)
      refine c_goesOn k H m2 m3 m4 m5 hk (by omega) hI (fun ρ p1 p2 p3 p4 => ?_)
      exact ih (H + 1) ρ _ _ (by omega) hk (fun a q1 q2 => (p1 a q1 q2).trans (e1 a q1 q2)) (p2.trans e2) (fun k q1 q2 q3 => (p3 k q1 q2 q3).trans (e3 k q1 q2 q3)) p4 ha (by rw [hb]; first | rfl | assumption | (simp only [jlit, jneg, jadd, jsub, jmul]; done) | (simp only [jlit, jneg, jadd, jsub, jmul]; congr 1 <;> omega) | (congr 1 <;> omega)) go
  have outer : ∀ (n k : Nat) (τ : Mm) (a : Int32), W.t + k + n = (ru 1).toNat → (∀ a, a ≠ 98 → a ≠ 120 → τ.1 a = τ1.1 a) → τ.2 = τ1.2 → (∀ k, k ≠ 41 → k ≠ 42 → k ≠ 43 → τ.1 98 k = τ1.1 98 k) → (0 < n → MI τ ru W k 0) → (n = 0 → MF τ ru W) → a = jI ((W.t + k : Nat) : Int) → Wp l G (d + 11) mX12_laysMasses 71 [(0, .ref 98), (1, .int a)] [] τ Q := by
    intro n
    induction n with
    | zero =>
      intro k τ a hn e1 e2 e3 _ hF ha
      obtain ⟨m1, m2, m3, m4, m5⟩ := main τ e1 e2 e3
      refine wX12_laysMasses [] 60 ?_
      refine ldI 14 1 (m2.2.1.2 1 (by omega)) ?_
      refine brle (ru 1) ((W.t + k : Nat) : Int) (fun _ => ?_) (fun z => by omega)
      exact hq τ m1 m3 m4 m5 (hF rfl)
    | succ n ih =>
      intro k τ a hn e1 e2 e3 hI _ ha
      obtain ⟨m1, m2, m3, m4, m5⟩ := main τ e1 e2 e3
      refine wX12_laysMasses [(83, [0, 1, 2])] 60 ?_
      refine ldI 14 1 (m2.2.1.2 1 (by omega)) ?_
      refine brle (ru 1) ((W.t + k : Nat) : Int) (fun z => by omega) (fun _ => ?_)
      refine inner (W.t + k + 1) k 0 τ a _ (by omega) (by omega) e1 e2 e3 (hI (by omega)) ha rfl (fun ρ b' p1 p2 p3 p4 => ?_)
      refine wX12_laysMasses [(71, [0, 1])] 60 ?_
      refine ih (k + 1) ρ _ (by omega) p1 p2 p3 (fun z => MI_next p4 hht (by omega)) (fun z => MI_end p4 (by omega)) (by rw [ha]; first | rfl | assumption | (simp only [jlit, jneg, jadd, jsub, jmul]; done) | (simp only [jlit, jneg, jadd, jsub, jmul]; congr 1 <;> omega) | (congr 1 <;> omega))
  have zero : ∀ (n i : Nat) (τ : Mm) (u : Int32), i + n = 144 → u = jI (i : Int) → (∀ a, a ≠ 120 → τ.1 a = τ1.1 a) → τ.2 = τ1.2 → (∀ j, j < i → τ.1 120 j = 0) → Wp l G (d + 11) mX12_laysMasses 6 [(0, .ref 98), (1, .int u)] [] τ Q := by
    intro n
    induction n with
    | zero =>
      intro i τ u hn hu e1 e2 e3
      obtain ⟨m1, m2, m3, m4, m5⟩ := main τ (fun a _ q => e1 a q) e2 (fun k _ _ _ => by rw [e1 98 (by decide)])
      refine wX12_laysMasses [(71, [0, 1])] 60 ?_
      refine brle 144 (i : Int) (fun _ => ?_) (fun z => by omega)
      have c : ∀ (τ : Mm) (a b c : Int32) (x : Nat), x ≠ 98 → (uI (uI (uI τ 98 41 a) 98 42 b) 98 43 c).1 x = τ.1 x := fun τ a b c x hx => by rw [uI_n hx, uI_n hx, uI_n hx]
      refine ldI 494 0 (show _ = jI (W.t : Int) by rw [c _ _ _ _ _ (by decide), ht]; exact m2.2.2.1.1 0 (by omega)) ?_
      refine ldI 494 1 (show _ = jI (W.h : Int) by rw [c _ _ _ _ _ (by decide), hh]; exact m2.2.2.1.1 1 (by omega)) ?_
      refine c_node (W.t : Int) (W.h : Int) ?_
      refine stI 144 (12 * W.t + W.h) ?_
      refine ldI 494 0 (show _ = jI (W.t : Int) by rw [uI_n (by decide), c _ _ _ _ _ (by decide), ht]; exact m2.2.2.1.1 0 (by omega)) ?_
      have z0 : ∀ j, j < 144 → j ≠ 12 * W.t + W.h → (uI (uI (uI (uI τ 98 41 0) 98 42 0) 98 43 0) 120 (12 * W.t + W.h) 1000000000).1 120 j = 0 := fun j hj hne => by rw [uI_ne (Or.inr hne), c _ _ _ _ _ (by decide)]; exact e3 j (by omega)
      refine outer ((ru 1).toNat - W.t) 0 _ _ (by omega) (fun a q1 q2 => by rw [uI_n q2, c _ _ _ _ _ q1]; exact e1 a q2) e2 (fun k q1 q2 q3 => by rw [uI_n (by decide), uI_ne (Or.inr q3), uI_ne (Or.inr q2), uI_ne (Or.inr q1), e1 98 (by decide)]) (fun _ => ⟨fun j h q1 q2 => ?_, fun q1 h q2 => ?_, fun t h q1 q2 q3 => z0 _ (by omega) (by omega), ?_, ?_, ?_⟩) (fun z => by omega) rfl
      · obtain rfl : j = 0 := by omega
        show _ = (if h = W.h then (1000000000 : Int32) else 0)
        by_cases z : h = W.h
        · rw [if_pos z, z]
          exact uI_at _ _ _ _
        · rw [if_neg z]
          exact z0 _ (by omega) (by omega)
      · rw [z0 _ (by omega) (by omega)]
        unfold mP
        rw [if_neg (by omega), if_neg (by omega)]
        rfl
      · rw [uI_n (by decide), uI_ne (Or.inr (by decide)), uI_ne (Or.inr (by decide)), uI_at]
        rfl
      · rw [uI_n (by decide), uI_ne (Or.inr (by decide)), uI_at]
        rfl
      · rw [uI_n (by decide), uI_at]
        split <;> rfl
    | succ n ih =>
      intro i τ u hn hu e1 e2 e3
      refine wX12_laysMasses [(6, [0, 1])] 60 ?_
      refine brle 144 (i : Int) (fun z => by omega) (fun _ => ?_)
      refine stI 144 i ?_
      refine ih (i + 1) _ _ (by omega) (by rw [hu]; first | rfl | assumption | (simp only [jlit, jneg, jadd, jsub, jmul]; done) | (simp only [jlit, jneg, jadd, jsub, jmul]; congr 1 <;> omega) | (congr 1 <;> omega)) (fun a q => by rw [uI_n q]; exact e1 a q) e2 (fun j hj => ?_)
      by_cases z : j = i
      · rw [z, uI_at]
      · rw [uI_ne (Or.inr z)]
        exact e3 j (by omega)
  exact zero 144 0 τ1 _ (by omega) rfl (fun _ _ => rfl) rfl (fun j hj => by omega)
def aMass (ru : Nat → Int) (W : Wk) (a b : Int) : Int32 := if W.f 6 = 1 ∨ ¬ isN ru a b ∨ a < W.f 0 then -1 else mA ru W (a.toNat - W.t) b.toNat
def aMasses (ru : Nat → Int) (W : Wk) (w : Int) : Int32 := if W.f 6 = 1 ∨ ¬ (0 ≤ w ∧ w ≤ 2) then -1 else if w = 0 then allS W.t (gD ru W 1) (nY ru W) else if w = 1 then allS W.t (gD ru W 2) (nY ru W) else rowS (gD ru W 0 (nY ru W - 1)) (ru 1).toNat
def aEnding (ru : Nat → Int) (W : Wk) (y w : Int) : Int32 := if W.f 6 = 1 ∨ ¬ (W.f 0 ≤ y ∧ y ≤ ru 1 - 1) ∨ ¬ (0 ≤ w ∧ w ≤ 1) then -1 else rowS (gD ru W (w + 1) (y.toNat - W.t)) (y.toNat + 1)
theorem c_mass {x y : Int32} (a b : Int) (hM : RM σ ru W) (ra : R31 a) (rb : R31 b) (hq : ∀ τ, Qf σ τ → Q (some (.int (aMass ru W a b))) τ) (ex : x = jI a := by first | rfl | assumption | (simp only [jlit, jneg, jadd, jsub, jmul]; done) | (simp only [jlit, jneg, jadd, jsub, jmul]; congr 1 <;> omega) | (congr 1 <;> omega)) (ey : y = jI b := by first | rfl | assumption | (simp only [jlit, jneg, jadd, jsub, jmul]; done) | (simp only [jlit, jneg, jadd, jsub, jmul]; congr 1 <;> omega) | (congr 1 <;> omega)) : MW l G (d + 12) mX12_mass [.ref 98, .int x, .int y] σ Q := by
  have f0 : Qf σ (uI σ 98 0 0) := Qf.rf.u8 (by decide)
  have M0 := hM.fr f0
  have hW := hM.2.2.2.2
  have hr' := hM.2.1.1
  unfold RB at hr'
  unfold WB at hW
  obtain ⟨hr3, r2, ht, hh, hht⟩ := hM.r
  unfold aMass at hq
  have no : W.f 6 = 1 ∨ ¬ isN ru a b ∨ a < W.f 0 → Q (some (.int (-1))) (uI σ 98 0 0) := fun z => by
    rw [if_pos z] at hq
    exact hq _ f0
  refine vX12_mass [] 60 ?_
  refine c_over M0 ?_
  refine brz _ (fun q => ?_) (fun q => no (Or.inl q))
  refine c_isNode a b M0.1 M0.2.1 ra rb ?_
  refine brz _ (fun q1 => no (Or.inr (Or.inl q1))) (fun q1 => ?_)
  refine ldI 494 0 (M0.2.2.1.1 0 (by omega)) ?_
  refine brle (W.f 0) a (fun q2 => ?_) (fun q2 => no (Or.inr (Or.inr q2)))
  rw [if_neg (fun z => z.elim q (fun v => v.elim (fun w => w q1) (fun w => by omega)))] at hq
  refine c_laysMasses M0 (by omega) (fun τ F g2 g3 g4 g5 => ?_)
  refine c_node a b ?_
  refine ldI 144 (12 * (W.t + (a.toNat - W.t)) + b.toNat) (g5.1 (a.toNat - W.t) b.toNat (by omega) (by omega)) (hq τ (f0.tr F)) (hi := by congr 1; omega)
theorem c_masses {x : Int32} (w : Int) (hM : RM σ ru W) (rw' : R31 w) (hq : ∀ τ, Qf σ τ → Q (some (.int (aMasses ru W w))) τ) (ex : x = jI w := by first | rfl | assumption | (simp only [jlit, jneg, jadd, jsub, jmul]; done) | (simp only [jlit, jneg, jadd, jsub, jmul]; congr 1 <;> omega) | (congr 1 <;> omega)) : MW l G (d + 12) mX12_masses [.ref 98, .int x] σ Q := by
  have f0 : Qf σ (uI σ 98 0 0) := Qf.rf.u8 (by decide)
  have M0 := hM.fr f0
  have hW := hM.2.2.2.2
  unfold WB at hW
  unfold aMasses at hq
  have no : W.f 6 = 1 ∨ ¬ (0 ≤ w ∧ w ≤ 2) → Q (some (.int (-1))) (uI σ 98 0 0) := fun z => by
    rw [if_pos z] at hq
    exact hq _ f0
  refine vX12_masses [] 60 ?_
  refine c_over M0 ?_
  refine brz _ (fun q => ?_) (fun q => no (Or.inl q))
  refine c_isIn w 0 2 ?_ (by rw [ex, jI_L rw'])
  refine brz _ (fun q1 => no (Or.inr q1)) (fun q1 => ?_)
  rw [if_neg (by omega)] at hq
  refine c_laysMasses M0 (by omega) (fun τ F g2 g3 g4 g5 => ?_)
  have hq := hq τ (f0.tr F)
  rw [← g5.2.1, ← g5.2.2.1, ← g5.2.2.2] at hq
  refine breq w 0 (fun z => ?_) (fun z => ?_) (hx := ex) (hy := rfl)
  · rw [if_pos z] at hq
    exact hq
  · rw [if_neg z] at hq
    refine breq w 1 (fun z => ?_) (fun z => ?_) (hx := ex) (hy := rfl)
    · rw [if_pos z] at hq
      exact hq
    · rw [if_neg z] at hq
      exact hq
theorem c_ending {x y : Int32} (t w : Int) (hM : RM σ ru W) (rt : R31 t) (rw' : R31 w) (hq : ∀ τ, Qf σ τ → Q (some (.int (aEnding ru W t w))) τ) (ex : x = jI t := by first | rfl | assumption | (simp only [jlit, jneg, jadd, jsub, jmul]; done) | (simp only [jlit, jneg, jadd, jsub, jmul]; congr 1 <;> omega) | (congr 1 <;> omega)) (ey : y = jI w := by first | rfl | assumption | (simp only [jlit, jneg, jadd, jsub, jmul]; done) | (simp only [jlit, jneg, jadd, jsub, jmul]; congr 1 <;> omega) | (congr 1 <;> omega)) : MW l G (d + 12) mX12_ending [.ref 98, .int x, .int y] σ Q := by
  have f0 : Qf σ (uI σ 98 0 0) := Qf.rf.u8 (by decide)
  have M0 := hM.fr f0
  have hW := hM.2.2.2.2
  have hr' := hM.2.1.1
  unfold RB at hr'
  unfold WB at hW
  obtain ⟨hr3, r2, ht, hh, hht⟩ := hM.r
  unfold aEnding at hq
  have no : W.f 6 = 1 ∨ ¬ (W.f 0 ≤ t ∧ t ≤ ru 1 - 1) ∨ ¬ (0 ≤ w ∧ w ≤ 1) → Q (some (.int (-1))) (uI σ 98 0 0) := fun z => by
    rw [if_pos z] at hq
    exact hq _ f0
  refine vX12_ending [(61, [0, 1, 2, 3, 4])] 60 ?_
  refine c_over M0 ?_
  refine brz _ (fun q => ?_) (fun q => no (Or.inl q))
  refine ldI 494 0 (M0.2.2.1.1 0 (by omega)) ?_
  refine ldI 14 1 (M0.2.1.2 1 (by omega)) ?_
  refine c_isIn t (W.f 0) (ru 1 - 1) ?_ (by rw [ex, jI_L rt]) (by rw [jI_L (by omega)]) (by rw [show (1 : Int32) = jI 1 from rfl, jsub, jI_L (by omega)])
  refine brz _ (fun q1 => no (Or.inr (Or.inl q1))) (fun q1 => ?_)
  refine c_isIn w 0 1 ?_ (by rw [ey, jI_L rw'])
  refine brz _ (fun q2 => no (Or.inr (Or.inr q2))) (fun q2 => ?_)
  rw [if_neg (by omega)] at hq
  refine c_laysMasses M0 (by omega) (fun τ F g2 g3 g4 g5 => ?_)
  have M1 := M0.fr F
  have hq := hq τ (f0.tr F)
  obtain ⟨n, rfl⟩ : ∃ n : Nat, t = (n : Int) := ⟨t.toNat, by omega⟩
  rw [show (n : Int).toNat = n from Int.toNat_natCast n] at hq
  have key : ∀ (m h : Nat) (u v : Int32), h + m = n + 1 → u = rowS (gD ru W (w + 1) (n - W.t)) h → v = jI (h : Int) → Wp l G (d + 12) mX12_ending 61 [(0, .ref 98), (1, .int x), (2, .int y), (3, .int u), (4, .int v)] [] τ Q := by
    intro m
    induction m with
    | zero =>
      intro h u v hn hu hv
      refine wX12_ending [] 60 ?_
      refine brlt (n : Int) (h : Int) (fun _ => ?_) (fun z => by omega) (hx := ex) (hy := hv)
      rw [show n + 1 = h by omega, ← hu] at hq
      exact hq
    | succ m ih =>
      intro h u v hn hu hv
      have em := g5.1 (n - W.t) h (by omega) (by omega)
      have et : W.t + (n - W.t) = n := by omega
      rw [et] at em
      have bb := wBest_in ru W n h
      refine wX12_ending [(61, [0, 1, 2, 3, 4])] 60 ?_
      refine brlt (n : Int) (h : Int) (fun z => by omega) (fun _ => ?_) (hx := ex) (hy := hv)
      refine ldI 494 3 (show _ = jI (W.r : Int) by rw [hr3]; exact M1.2.2.1.1 3 (by omega)) ?_
      refine ldI 494 2 (M1.2.2.1.1 2 (by omega)) ?_
      refine c_bestDeed W.r 0 n h (W.f 2) _ _ M1.pm g2 (by decide) r2 (by omega) (by omega) (by omega) hW.2.1 (g3.up (by omega)) g4 ?_ (ez := ex) (eu := hv)
      have eg : gD ru W (w + 1) (n - W.t) h = if wBest ru W n h = w + 1 then mA ru W (n - W.t) h else 0 := by
        unfold gD
        rw [et]
      refine breq (wBest ru W n h) (w + 1) (fun z => ?_) (fun z => ?_) (hx := rfl) (hy := by rw [ey]; first | rfl | assumption | (simp only [jlit, jneg, jadd, jsub, jmul]; done) | (simp only [jlit, jneg, jadd, jsub, jmul]; congr 1 <;> omega) | (congr 1 <;> omega))
      · refine c_node (n : Int) (h : Int) ?_ ex hv
        refine ldI 144 (12 * n + h) em ?_
        refine ih (h + 1) _ _ (by omega) ?_ (by rw [hv]; first | rfl | assumption | (simp only [jlit, jneg, jadd, jsub, jmul]; done) | (simp only [jlit, jneg, jadd, jsub, jmul]; congr 1 <;> omega) | (congr 1 <;> omega))
        show _ = rowS (gD ru W (w + 1) (n - W.t)) h + gD ru W (w + 1) (n - W.t) h
        rw [eg, if_pos z, hu]
      · refine ih (h + 1) _ _ (by omega) ?_ (by rw [hv]; first | rfl | assumption | (simp only [jlit, jneg, jadd, jsub, jmul]; done) | (simp only [jlit, jneg, jadd, jsub, jmul]; congr 1 <;> omega) | (congr 1 <;> omega))
        show _ = rowS (gD ru W (w + 1) (n - W.t)) h + gD ru W (w + 1) (n - W.t) h
        rw [eg, if_neg z, hu]
        simp
  exact key (n + 1) 0 _ _ (by omega) rfl rfl
end MMb
