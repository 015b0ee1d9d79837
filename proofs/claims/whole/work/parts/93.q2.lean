-- the reference: costs, year, byPolicy, regret, saved, edge, mended
def wZP (ru : Nat → Int) (W : Wk) (t h : Nat) : Int := zco ru W.am W.ra (some W.de) W.r (W.f 2) t h
def wMe (ru : Nat → Int) (W : Wk) (t h : Nat) : Int := zbd ru W.am W.ra (W.f 2) (zco ru W.am W.ra (some W.de) W.r (W.f 2)) (zN ru W.am W.ra (some W.de) W.r) W.r t h
def aByPolicy (ru : Nat → Int) (W : Wk) (a b : Int) : Int := if isN ru a b then wZP ru W a.toNat b.toNat else -1
def aMended (ru : Nat → Int) (W : Wk) (a b : Int) : Int := if isN ru a b then wMe ru W a.toNat b.toNat else -1
def aRegret (ru : Nat → Int) (W : Wk) : Int := if W.f 6 = 1 then -1 else wZP ru W W.t W.h - wZ ru W W.t W.h
def aSaved (ru : Nat → Int) (W : Wk) : Int := if W.f 6 = 1 then -1 else zco ru W.am W.ra none 0 (W.f 2) W.t W.h - wZ ru W W.t W.h
/-- the first height from n down to .. that is held -/
def edgeF (ru : Nat → Int) (W : Wk) (t : Nat) : Nat → Nat → Int
  | 0, _ => -1
  | n + 1, h => if wBest ru W t h = 0 then (h : Int) else edgeF ru W t n (h + 1)
def aEdge (ru : Nat → Int) (W : Wk) (y : Int) : Int := if 0 ≤ y ∧ y < ru 1 then edgeF ru W y.toNat (y.toNat + 1) 0 else -1
section MQ2
variable {l : Launch} {G : GT} {d : Nat} {σ : Mm} {Q : Po} {ru : Nat → Int} {W : Wk}
theorem RM.r {σ : Mm} {ru : Nat → Int} {W : Wk} (h : RM σ ru W) : ((W.r : Nat) : Int) = W.f 3 ∧ W.r ≤ 2 ∧ ((W.t : Nat) : Int) = W.f 0 ∧ ((W.h : Nat) : Int) = W.f 1 ∧ W.h ≤ W.t := by
  have hW := h.2.2.2.2
  unfold WB at hW
  have h1 : ((W.r : Nat) : Int) = W.f 3 := Int.toNat_of_nonneg hW.2.2.1.1
  have h2 : ((W.t : Nat) : Int) = W.f 0 := Int.toNat_of_nonneg (by omega)
  have h3 : ((W.h : Nat) : Int) = W.f 1 := Int.toNat_of_nonneg (by omega)
  omega
theorem RM.pm {σ : Mm} {ru : Nat → Int} {W : Wk} (h : RM σ ru W) : PM σ 108 ru W.ra := h.2.2.1.PM h.2.1 (Or.inl rfl) h.2.2.2.1
theorem c_costs {x y z : Int32} (a b w : Int) (hM : RM σ ru W) (ra : R31 a) (rb : R31 b) (rw' : R31 w) (hq : ∀ τ, Qf σ τ → Q (some (.long (jL (aCosts ru W a b w)))) τ) (ex : x = jI a := by first | rfl | assumption | (simp only [jlit, jneg, jadd, jsub, jmul]; done) | (simp only [jlit, jneg, jadd, jsub, jmul]; congr 1 <;> omega) | (congr 1 <;> omega)) (ey : y = jI b := by first | rfl | assumption | (simp only [jlit, jneg, jadd, jsub, jmul]; done) | (simp only [jlit, jneg, jadd, jsub, jmul]; congr 1 <;> omega) | (congr 1 <;> omega)) (ez : z = jI w := by first | rfl | assumption | (simp only [jlit, jneg, jadd, jsub, jmul]; done) | (simp only [jlit, jneg, jadd, jsub, jmul]; congr 1 <;> omega) | (congr 1 <;> omega)) : MW l G (d + 11) mX12_costs [.ref 98, .int x, .int y, .int z] σ Q := by
  have f0 : Qf σ (uI σ 98 0 0) := Qf.rf.u8 (by decide)
  have M0 := hM.fr f0
  have hW := hM.2.2.2.2
  have hr' := hM.2.1.1
  unfold RB at hr'
  unfold WB at hW
  obtain ⟨hr3, r2, -⟩ := hM.r
  unfold aCosts at hq
  have no : isN ru a b → ¬ (1 < w ∧ ¬ myD ru (w - 1) (W.f 3) a) → 0 ≤ w ∧ w ≤ 3 → Wp l G (d + 11) mX12_costs 56 [(0, .ref 98), (1, .int x), (2, .int y), (3, .int z)] [] (uI σ 98 0 0) Q := by
    intro q1 q2 q3
    rw [if_neg (fun z => z q3), if_neg (fun z => z.elim (fun v => v q1) q2)] at hq
    refine wX12_costs [] 60 ?_
    refine c_laysNow M0 (fun τ g1 g2 g3 g4 => ?_)
    have M1 := M0.fr g1
    have hq := hq τ (f0.tr g1)
    refine breq w 0 (fun q => ?_) (fun q => ?_)
    · rw [if_pos q] at hq
      refine ldI 494 3 (show _ = jI (W.r : Int) by rw [hr3]; exact M1.2.2.1.1 3 (by omega)) ?_
      refine c_cell W.r 0 a b ?_
      refine ldL 62640 (ix4 W.r 0 a.toNat b.toNat) ((g3 W.r (Nat.le_refl _) a.toNat b.toNat (by omega) (by omega) (by omega)).1 (by omega)) hq (by unfold ix4; omega) (by unfold ix4; congr 1; omega)
    · rw [if_neg q] at hq
      refine ldI 494 3 (show _ = jI (W.r : Int) by rw [hr3]; exact M1.2.2.1.1 3 (by omega)) ?_
      refine ldI 494 2 (M1.2.2.1.1 2 (by omega)) ?_
      obtain ⟨dn, hdn⟩ : ∃ dn : Nat, w - 1 = (dn : Int) := ⟨(w - 1).toNat, by omega⟩
      rw [hdn] at hq
      refine c_costBy dn W.r 0 a.toNat b.toNat (W.f 2) _ _ M1.pm g2 (by decide) r2 (by omega) (by omega) (by omega) hW.2.1 ((g3 W.r (Nat.le_refl _)).up (by omega)) (g4 W.r (Nat.le_refl _)) ?_ hq (ek := by rw [ez, show (1 : Int32) = jI 1 from rfl, jsub]; congr 1) (ez := by rw [ex]; congr 1; omega) (eu := by rw [ey]; congr 1; omega)
      by_cases w1 : w = 1
      · omega
      · have : myD ru (w - 1) (W.f 3) a := by
          by_cases z : myD ru (w - 1) (W.f 3) a
          · exact z
          · exact absurd ⟨by omega, z⟩ q2
        unfold myD at this
        omega
  refine vX12_costs [(56, [0, 1, 2, 3])] 60 ?_
  refine c_isIn w 0 3 ?_ (by rw [ez, jI_L rw'])
  refine brz _ (fun q => ?_) (fun q => ?_)
  · rw [if_pos q] at hq
    exact hq _ f0
  · refine c_isNode a b M0.1 M0.2.1 ra rb ?_
    refine brz _ (fun q1 => ?_) (fun q1 => ?_)
    · rw [if_neg (fun z => z q), if_pos (Or.inl q1)] at hq
      exact hq _ f0
    · refine brle w 1 (fun q2 => no q1 (by omega) q) (fun q2 => ?_)
      refine ldI 494 3 (show _ = jI (W.f 3) from M0.2.2.1.1 3 (by omega)) ?_
      refine c_may (w - 1) (W.f 3) a hM.2.1.1 M0.2.1.2 (by omega) (by omega) hW.2.2.1 ?_ (ex := by rw [ez, show (1 : Int32) = jI 1 from rfl, jsub])
      refine brz _ (fun q3 => ?_) (fun q3 => no q1 (fun z => z.2 q3) q)
      rw [if_neg (fun z => z q), if_pos (Or.inr ⟨q2, q3⟩)] at hq
      exact hq _ f0
theorem c_laysPolicy {w : Nat} (hw : Wr w) (hE : ME σ ru) (h3 : Mr σ ru w W) (h4 : σ.1 98 27 = 0) (h5 : WB ru W) (hq : ∀ τ, (∀ a, a ∉ [112, 113, 114] → τ.1 a = σ.1 a) → (∀ a, a ∉ [112, 113, 114] → a ≠ 116 → τ.2 a = σ.2 a) → LY τ ru W.am → (∀ r, r ≤ W.r → TB τ 116 ru r 0 0 (zco ru W.am W.ra (some W.de) r (W.f 2))) → (∀ r, r ≤ W.r → TN τ 116 ru r (zN ru W.am W.ra (some W.de) r)) → Q none τ) : MW l G (d + 10) mX12_laysPolicy [.ref 98, .ref w] σ Q := by
  have e7 : uI σ 98 27 0 = σ := uI_id h4
  refine vX12_laysPolicy [] 60 ?_
  have hl : lenI w = 494 := hw.len
  refine ldI (lenI w) 2 (show _ = jI (W.f 2) by rw [e7]; exact h3.1 2 (by omega)) ?_
  rw [e7]
  refine ldI (lenI w) 3 (h3.1 3 (by omega)) ?_
  exact c_laysW (T := 116) (some W.de) (Or.inr rfl) hw hE h3 h4 h5 (by decide) rfl (fun τ g1 g2 g3 g4 g5 => hq τ g1 g2 g3 g4 g5)
theorem c_byPolicy {x y : Int32} (a b : Int) (hM : RM σ ru W) (ra : R31 a) (rb : R31 b) (hq : ∀ τ, Qf σ τ → Q (some (.long (jL (aByPolicy ru W a b)))) τ) (ex : x = jI a := by first | rfl | assumption | (simp only [jlit, jneg, jadd, jsub, jmul]; done) | (simp only [jlit, jneg, jadd, jsub, jmul]; congr 1 <;> omega) | (congr 1 <;> omega)) (ey : y = jI b := by first | rfl | assumption | (simp only [jlit, jneg, jadd, jsub, jmul]; done) | (simp only [jlit, jneg, jadd, jsub, jmul]; congr 1 <;> omega) | (congr 1 <;> omega)) : MW l G (d + 11) mX12_byPolicy [.ref 98, .int x, .int y] σ Q := by
  have f0 : Qf σ (uI σ 98 0 0) := Qf.rf.u8 (by decide)
  have M0 := hM.fr f0
  obtain ⟨hr3, r2, -⟩ := hM.r
  have hr' := hM.2.1.1
  unfold RB at hr'
  unfold aByPolicy at hq
  refine vX12_byPolicy [] 60 ?_
  refine c_isNode a b M0.1 M0.2.1 ra rb ?_
  refine brz _ (fun q => ?_) (fun q => ?_)
  · rw [if_neg q] at hq
    exact hq _ f0
  · rw [if_pos q] at hq
    refine c_laysPolicy (Or.inl rfl) M0.2.1 M0.2.2.1 M0.2.2.2.1 M0.2.2.2.2 (fun τ g1 g2 g3 g4 g5 => ?_)
    have F1 := f0.la 116 (Or.inr (Or.inl rfl)) g1 g2
    have M1 := hM.fr F1
    refine ldI 494 3 (show _ = jI (W.r : Int) by rw [hr3]; exact M1.2.2.1.1 3 (by omega)) ?_
    refine c_cell W.r 0 a b ?_
    exact ldL 62640 (ix4 W.r 0 a.toNat b.toNat) ((g4 W.r (Nat.le_refl _) a.toNat b.toNat (by omega) (by omega) (by omega)).1 (by omega)) (hq τ F1) (by unfold ix4; omega) (by unfold ix4; congr 1; omega)
theorem c_mended {x y : Int32} (a b : Int) (hM : RM σ ru W) (ra : R31 a) (rb : R31 b) (hq : ∀ τ, Qf σ τ → Q (some (.int (jI (aMended ru W a b)))) τ) (ex : x = jI a := by first | rfl | assumption | (simp only [jlit, jneg, jadd, jsub, jmul]; done) | (simp only [jlit, jneg, jadd, jsub, jmul]; congr 1 <;> omega) | (congr 1 <;> omega)) (ey : y = jI b := by first | rfl | assumption | (simp only [jlit, jneg, jadd, jsub, jmul]; done) | (simp only [jlit, jneg, jadd, jsub, jmul]; congr 1 <;> omega) | (congr 1 <;> omega)) : MW l G (d + 11) mX12_mended [.ref 98, .int x, .int y] σ Q := by
  have f0 : Qf σ (uI σ 98 0 0) := Qf.rf.u8 (by decide)
  have M0 := hM.fr f0
  obtain ⟨hr3, r2, -⟩ := hM.r
  have hW := hM.2.2.2.2
  unfold WB at hW
  unfold aMended at hq
  refine vX12_mended [] 60 ?_
  refine c_isNode a b M0.1 M0.2.1 ra rb ?_
  refine brz _ (fun q => ?_) (fun q => ?_)
  · rw [if_neg q] at hq
    exact hq _ f0
  · rw [if_pos q] at hq
    refine c_laysPolicy (Or.inl rfl) M0.2.1 M0.2.2.1 M0.2.2.2.1 M0.2.2.2.2 (fun τ g1 g2 g3 g4 g5 => ?_)
    have F1 := f0.la 116 (Or.inr (Or.inl rfl)) g1 g2
    have M1 := hM.fr F1
    refine ldI 494 3 (show _ = jI (W.r : Int) by rw [hr3]; exact M1.2.2.1.1 3 (by omega)) ?_
    refine ldI 494 2 (M1.2.2.1.1 2 (by omega)) ?_
    exact c_bestDeed W.r 0 a.toNat b.toNat (W.f 2) _ _ M1.pm g3 (by decide) r2 (by omega) (by omega) (by omega) hW.2.1 ((g4 W.r (Nat.le_refl _)).up (by omega)) (g5 W.r (Nat.le_refl _)) (hq τ F1) (ez := by rw [ex]; congr 1; omega) (eu := by rw [ey]; congr 1; omega)
/-- the number of a table where one stands -/
theorem c_hereJ {T : Nat} {v : Int64} (hT : lenJ T = 62640) (hM : RM σ ru W) (h6 : W.f 6 = 0) (hv : σ.2 T (ix4 W.r 0 W.t W.h) = v) (hq : Q (some (.long v)) σ) : MW l G (d + 2) mX12_here_ [.ref 98, .ref T] σ Q := by
  obtain ⟨hr3, r2, ht, hh, hht⟩ := hM.r
  have hW := hM.2.2.2.2
  have hr' := hM.2.1.1
  unfold RB at hr'
  unfold WB at hW
  refine vX12_here_ [] 60 ?_
  refine ldI 494 3 (show _ = jI (W.r : Int) by rw [hr3]; exact hM.2.2.1.1 3 (by omega)) ?_
  refine ldI 494 0 (show _ = jI (W.t : Int) by rw [ht]; exact hM.2.2.1.1 0 (by omega)) ?_
  refine ldI 494 1 (show _ = jI (W.h : Int) by rw [hh]; exact hM.2.2.1.1 1 (by omega)) ?_
  refine c_cell W.r 0 W.t W.h ?_
  exact ldL (lenJ T) (ix4 W.r 0 W.t W.h) hv hq (by unfold ix4; omega) (by unfold ix4; congr 1) (by omega)
theorem c_laysNowX (hM : RM σ ru W) (hq : ∀ τ, (∀ a, a ∉ [112, 113, 114] → τ.1 a = σ.1 a) → (∀ a, a ∉ [112, 113, 114] → a ≠ 115 → τ.2 a = σ.2 a) → LY τ ru W.am → (∀ r, r ≤ W.r → TB τ 115 ru r 0 0 (zco ru W.am W.ra none r (W.f 2))) → (∀ r, r ≤ W.r → TN τ 115 ru r (zN ru W.am W.ra none r)) → Q none τ) : MW l G (d + 10) mX12_laysNow [.ref 98] σ Q := by
  obtain ⟨h1, h2, h3, h4, h5⟩ := hM
  have e7 : uI σ 98 27 0 = σ := uI_id h4
  refine vX12_laysNow [] 60 ?_
  refine ldI 494 2 (show _ = jI (W.f 2) by rw [e7]; exact h3.1 2 (by omega)) ?_
  rw [e7]
  refine ldI 494 3 (h3.1 3 (by omega)) ?_
  exact c_laysW (T := 115) none (Or.inl rfl) (Or.inl rfl) h2 h3 h4 h5 (by decide) rfl (fun τ g1 g2 g3 g4 g5 => hq τ g1 g2 g3 g4 g5)
theorem RM.over (hM : RM σ ru W) : W.f 6 = 0 ∨ W.f 6 = 1 := by
  have hW := hM.2.2.2.2
  unfold WB at hW
  exact hW.2.2.2.2.1
theorem c_over (hM : RM σ ru W) (hq : Q (some (.int (if W.f 6 = 1 then 1 else 0))) σ) : MW l G d mX12_isOver [.ref 98, .ref 108] σ Q := c_isOver (Or.inl rfl) hM.1 (hM.2.2.1.1 6 (by omega)) hM.over hq
theorem c_regret (hM : RM σ ru W) (hq : ∀ τ, Qf σ τ → Q (some (.long (jL (aRegret ru W)))) τ) : MW l G (d + 11) mX12_regret [.ref 98] σ Q := by
  have f0 : Qf σ (uI σ 98 0 0) := Qf.rf.u8 (by decide)
  have M0 := hM.fr f0
  obtain ⟨hr3, r2, ht, hh, hht⟩ := hM.r
  have hr' := hM.2.1.1
  unfold RB at hr'
  have hW := hM.2.2.2.2
  unfold WB at hW
  unfold aRegret at hq
  refine vX12_regret [] 60 ?_
  refine c_over M0 ?_
  refine brz _ (fun q => ?_) (fun q => ?_)
  · rw [if_neg q] at hq
    have h6 : W.f 6 = 0 := by omega
    refine c_laysPolicy (Or.inl rfl) M0.2.1 M0.2.2.1 M0.2.2.2.1 M0.2.2.2.2 (fun τ g1 g2 g3 g4 g5 => ?_)
    have F1 := f0.la 116 (Or.inr (Or.inl rfl)) g1 g2
    have M1 := hM.fr F1
    have t1 := (g4 W.r (Nat.le_refl _) W.t W.h (by omega) (by omega) hht).1 (by omega)
    refine c_laysNowX M1 (fun ρ p1 p2 p3 p4 p5 => ?_)
    have F2 := F1.la 115 (Or.inl rfl) p1 p2
    have M2 := hM.fr F2
    have t2 := (p4 W.r (Nat.le_refl _) W.t W.h (by omega) (by omega) hht).1 (by omega)
    refine c_hereJ (T := 116) (by decide) M2 h6 ((congrFun (p2 116 (by decide) (by decide)) _).trans t1) ?_
    refine c_hereJ (T := 115) (by decide) M2 h6 t2 ?_
    have hq := hq ρ F2
    rw [← jLsub] at hq
    exact hq
  · rw [if_pos q] at hq
    exact hq _ f0
theorem c_saved (hM : RM σ ru W) (hq : ∀ τ, Qf σ τ → Q (some (.long (jL (aSaved ru W)))) τ) : MW l G (d + 11) mX12_saved [.ref 98] σ Q := by
  have f0 : Qf σ (uI σ 98 0 0) := Qf.rf.u8 (by decide)
  have M0 := hM.fr f0
  obtain ⟨hr3, r2, ht, hh, hht⟩ := hM.r
  have hr' := hM.2.1.1
  unfold RB at hr'
  have hW := hM.2.2.2.2
  unfold WB at hW
  unfold aSaved at hq
  refine vX12_saved [] 60 ?_
  refine c_over M0 ?_
  refine brz _ (fun q => ?_) (fun q => ?_)
  · rw [if_neg q] at hq
    have h6 : W.f 6 = 0 := by omega
    refine c_laysNow M0 (fun ρ F p3 p4 p5 => ?_)
    have F2 := f0.tr F
    have M2 := hM.fr F2
    have t2 := (p4 W.r (Nat.le_refl _) W.t W.h (by omega) (by omega) hht).1 (by omega)
    have t0 := (p4 0 (by omega) W.t W.h (by omega) (by omega) hht).1 (by omega)
    refine ldI 494 0 (show _ = jI (W.t : Int) by rw [ht]; exact M2.2.2.1.1 0 (by omega)) ?_
    refine ldI 494 1 (show _ = jI (W.h : Int) by rw [hh]; exact M2.2.2.1.1 1 (by omega)) ?_
    refine c_cell 0 0 W.t W.h ?_
    refine ldL 62640 (ix4 0 0 W.t W.h) t0 ?_ (by unfold ix4; omega) (by unfold ix4; congr 1)
    refine c_hereJ (T := 115) (by decide) M2 h6 t2 ?_
    have hq := hq ρ F2
    rw [← jLsub] at hq
    exact hq
  · rw [if_pos q] at hq
    exact hq _ f0
theorem c_edge {x : Int32} (y : Int) (hM : RM σ ru W) (ry : R31 y) (hq : ∀ τ, Qf σ τ → Q (some (.int (jI (aEdge ru W y)))) τ) (ex : x = jI y := by first | rfl | assumption | (simp only [jlit, jneg, jadd, jsub, jmul]; done) | (simp only [jlit, jneg, jadd, jsub, jmul]; congr 1 <;> omega) | (congr 1 <;> omega)) : MW l G (d + 11) mX12_edge [.ref 98, .int x] σ Q := by
  have f0 : Qf σ (uI σ 98 0 0) := Qf.rf.u8 (by decide)
  have M0 := hM.fr f0
  obtain ⟨hr3, r2, ht, hh, hht⟩ := hM.r
  have hr' := hM.2.1.1
  unfold RB at hr'
  have hW := hM.2.2.2.2
  unfold WB at hW
  unfold aEdge at hq
  refine vX12_edge [(22, [0, 1, 2])] 60 ?_
  refine c_isNode y 0 M0.1 M0.2.1 ry (by omega) ?_
  refine brz _ (fun q => ?_) (fun q => ?_)
  · rw [if_neg (by omega)] at hq
    exact hq _ f0
  · rw [if_pos (by omega)] at hq
    refine c_laysNow M0 (fun τ F p3 p4 p5 => ?_)
    have F2 := f0.tr F
    have M2 := hM.fr F2
    have hq := hq τ F2
    have key : ∀ (n h : Nat) (u : Int32), h + n = y.toNat + 1 → u = jI (h : Int) → Q (some (.int (jI (edgeF ru W y.toNat n h)))) τ → Wp l G (d + 11) mX12_edge 22 [(0, .ref 98), (1, .int x), (2, .int u)] [] τ Q := by
      intro n
      induction n with
      | zero =>
        intro h u hn hu hQ
        refine wX12_edge [] 60 ?_
        refine brlt y (h : Int) (fun _ => hQ) (fun z => by omega)
      | succ n ih =>
        intro h u hn hu hQ
        subst hu
        unfold edgeF at hQ
        refine wX12_edge [(22, [0, 1, 2])] 60 ?_
        refine brlt y (h : Int) (fun z => by omega) (fun _ => ?_)
        refine ldI 494 3 (show _ = jI (W.r : Int) by rw [hr3]; exact M2.2.2.1.1 3 (by omega)) ?_
        refine ldI 494 2 (M2.2.2.1.1 2 (by omega)) ?_
        refine c_bestDeed W.r 0 y.toNat h (W.f 2) _ _ M2.pm p3 (by decide) r2 (by omega) (by omega) (by omega) hW.2.1 ((p4 W.r (Nat.le_refl _)).up (by omega)) (p5 W.r (Nat.le_refl _)) ?_ (ez := by rw [ex]; congr 1; omega)
        have bb := wBest_in ru W y.toNat h
        refine breq (wBest ru W y.toNat h) 0 (fun z => ?_) (fun z => ?_) (hx := rfl)
        · rw [if_pos z] at hQ
          exact hQ
        · rw [if_neg z] at hQ
          exact ih (h + 1) _ (by omega) (by first | rfl | assumption | (simp only [jlit, jneg, jadd, jsub, jmul]; done) | (simp only [jlit, jneg, jadd, jsub, jmul]; congr 1 <;> omega) | (congr 1 <;> omega)) hQ
    exact key (y.toNat + 1) 0 _ (by omega) rfl hq
end MQ2
