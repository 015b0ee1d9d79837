-- the class: costs, byPolicy, mended, regret, margin, shifted, year, sums, most
section KQ2
variable {l : Launch} {G : GT} {d : Nat} {σ : Mm} {Q : Po} {ru : Nat → Int} {W : Wk}
theorem KQ.b (hK : KQ σ ru W) (pol : Option (Nat → Nat → Int)) (hp : pol = none ∨ pol = some W.de ∨ pol = some (fun _ _ => 0)) {ra : Nat → Nat → Int} (hra : ∀ t h, 0 ≤ ra t h) (r t h : Nat) (ht : (t : Int) ≤ ru 1) (hh : h ≤ t) (r2 : r ≤ 2) : 0 ≤ zco ru W.am ra pol r (W.f 2) t h ∧ zco ru W.am ra pol r (W.f 2) t h ≤ 1000000 := by
  have hW := hK.2.2
  unfold WB at hW
  have := zco_in (pol := pol) (ra := ra) hK.2.1.1.1 (fun j => (hW.2.2.2.2.2.2.2.1 j).1) (fun t h _ _ => hra t h) (fun de q t h _ _ => by
    rcases hp with rfl | rfl | rfl
    · simp at q
    · simp at q
      rw [← q]
      exact hW.2.2.2.2.2.2.2.2.2 t h
    · simp at q
      rw [← q]
      exact ⟨Int.le_refl 0, by show (0 : Int) ≤ 2; omega⟩) hW.2.1 r t h ht hh
  omega
theorem KQ.ra (hK : KQ σ ru W) : ∀ t h, 0 ≤ W.ra t h := fun t h => (hK.2.2.2.2.2.2.2.2.2.2.1 t h).1
theorem wRS_in (W : Wk) (s : Int) : ∀ t h, 0 ≤ wRS W s t h := fun t h => by
  unfold wRS
  split
  · exact (bnd_in _).1
  · omega
theorem KQ.c (hK : KQ σ ru W) {t : Nat} (h6 : (t : Int) < ru 1) {h : Nat} (hh : h ≤ t) (dd : Int) (hm : dd = 0 ∨ (ru 9 ≤ t ∧ (t : Int) + ru 10 < ru 1) ∧ (dd = 1 ∨ dd = 2 ∧ 0 < W.r)) : 0 ≤ wCo ru W dd t h ∧ wCo ru W dd t h ≤ 1000000 := by
  have hW := hK.2.2
  unfold WB at hW
  obtain ⟨hr3, r2, -⟩ := hK.r
  exact zcd_in2 (pol := none) hK.2.1.1.1 (fun j => (hW.2.2.2.2.2.2.2.1 j).1) (fun t h _ _ => hK.ra t h) (fun de q => by simp at q) hW.2.1 r2 h6 hh hm
theorem KQ.cM (hK : KQ σ ru W) {t : Nat} (h6 : (t : Int) < ru 1) {h : Nat} (hh : h ≤ t) (dd : Int) (hm : dd = 0 ∨ (ru 9 ≤ t ∧ (t : Int) + ru 10 < ru 1) ∧ (dd = 1 ∨ dd = 2 ∧ 0 < W.r)) : 0 ≤ zcd ru W.am W.ra (W.f 2) (zco ru W.am W.ra (some W.de) W.r (W.f 2)) (zN ru W.am W.ra (some W.de) W.r) dd t h ∧ zcd ru W.am W.ra (W.f 2) (zco ru W.am W.ra (some W.de) W.r (W.f 2)) (zN ru W.am W.ra (some W.de) W.r) dd t h ≤ 1000000 := by
  have hW := hK.2.2
  unfold WB at hW
  obtain ⟨hr3, r2, -⟩ := hK.r
  exact zcd_in2 (pol := some W.de) hK.2.1.1.1 (fun j => (hW.2.2.2.2.2.2.2.1 j).1) (fun t h _ _ => hK.ra t h) (fun de q t h _ _ => by simp at q; rw [← q]; exact hW.2.2.2.2.2.2.2.2.2 t h) hW.2.1 r2 h6 hh hm
theorem zla_my (hK : KQ σ ru W) (t : Int) (dd : Int) (hd : 0 ≤ dd ∧ dd ≤ 2) : dd ≤ zla ru t W.r ↔ myD ru dd (W.f 3) t := by
  obtain ⟨hr3, r2, -⟩ := hK.r
  unfold zla myD
  split
  · split <;> omega
  · omega
theorem zbd_al {ru am : Nat → Int} {ra : Nat → Nat → Int} {cp : Int} {B N : Nat → Nat → Int} {r : Int} {t h : Nat} {al : Int} (ea : al = zla ru t r) : (if 1 ≤ al ∧ (if 1 ≤ al then zcd ru am ra cp B N 1 t h else 0) < zcd ru am ra cp B N 0 t h then (if 2 ≤ al ∧ (if 2 ≤ al then zcd ru am ra cp B N 2 t h else 0) < (if 1 ≤ al then zcd ru am ra cp B N 1 t h else 0) then 2 else 1) else (if 2 ≤ al ∧ (if 2 ≤ al then zcd ru am ra cp B N 2 t h else 0) < zcd ru am ra cp B N 0 t h then 2 else 0)) = zbd ru am ra cp B N r t h := by
  unfold zla at ea
  unfold zbd
  dsimp only
  by_cases m : ru 9 ≤ (t : Int) ∧ (t : Int) + ru 10 < ru 1
  · rw [if_pos m] at ea
    rw [if_pos m]
    by_cases r0 : 0 < r
    · rw [if_pos r0] at ea
      subst ea
      simp [r0]
    · rw [if_neg r0] at ea
      subst ea
      simp [r0]
  · rw [if_neg m] at ea
    rw [if_neg m]
    subst ea
    simp
theorem k_costs {x y z : Int32} (a b w : Int) (hK : KQ σ ru W) (ra : R31 a) (rb : R31 b) (rw' : R31 w) (hq : ∀ τ, QK σ τ → CI τ ru → Q (some (.long (jL (aCosts ru W a b w)))) τ) (ex : x = jI a := by first | rfl | assumption | (simp only [jlit, jneg, jadd, jsub, jmul]; done) | (simp only [jlit, jneg, jadd, jsub, jmul]; congr 1 <;> omega) | (congr 1 <;> omega)) (ey : y = jI b := by first | rfl | assumption | (simp only [jlit, jneg, jadd, jsub, jmul]; done) | (simp only [jlit, jneg, jadd, jsub, jmul]; congr 1 <;> omega) | (congr 1 <;> omega)) (ez : z = jI w := by first | rfl | assumption | (simp only [jlit, jneg, jadd, jsub, jmul]; done) | (simp only [jlit, jneg, jadd, jsub, jmul]; congr 1 <;> omega) | (congr 1 <;> omega)) : MW l G (d + 6) mX11_costs [.ref 0, .int x, .int y, .int z] σ Q := by
  have h12 := hK.ru
  obtain ⟨hr3, r2, ht, hh, hht, _, _, bc⟩ := hK.r
  unfold aCosts at hq
  have no : ¬ (0 ≤ w ∧ w ≤ 3) → Q (some (.long (jL (-1000000)))) σ := fun q => by
    rw [if_pos q] at hq
    exact hq σ QK.rf hK.2.1
  refine vX11_costs [] 90 ?_
  refine brlt w 0 (fun q => no (by omega)) (fun q1 => ?_)
  refine brle w 3 (fun q2 => ?_) (fun q => no (by omega))
  rw [if_neg (fun z => z ⟨q1, q2⟩)] at hq
  refine k_isN a b hK ra rb ?_
  refine brz _ (fun q => ?_) (fun q => ?_)
  · rw [if_pos (Or.inl q)] at hq
    exact hq σ QK.rf hK.2.1
  · have hn := nd_lt2 (t := a.toNat) (h := b.toNat) (by omega) (by omega)
    refine k_least0 hK (fun τ g1 g2 g3 g4 g5 g6 g7 g8 g9 => ?_)
    have hN := g6 a.toNat b.toNat (by omega) (by omega)
    refine k_nodeOf a.toNat b.toNat ?_ (by rw [ex]; congr 1; omega) (by rw [ey]; congr 1; omega)
    have hq := hq τ g1 g2
    refine breq w 0 (fun q3 => ?_) (fun q3 => ?_)
    · rw [if_neg (fun z => z.elim (fun v => v q) (fun v => by omega)), if_pos q3] at hq
      refine ldI 91 (nd a.toNat b.toNat) (show _ = jI (wZ ru W a.toNat b.toNat) from hN.2.2.2.2) ?_
      have hb := hK.b none (Or.inl rfl) hK.ra W.r a.toNat b.toNat (by omega) (by omega) r2
      have e : (jI (wZ ru W a.toNat b.toNat)).toInt64 = jL (wZ ru W a.toNat b.toNat) := jI_L (by unfold wZ; omega)
      rw [← e] at hq
      exact hq
    · refine k_lastAllowed (r := W.r) a g2.1 (by omega) (by omega) ?_
      have zm := zla_my hK a (w - 1) (by omega)
      have zi : 0 ≤ zla ru a W.r ∧ zla ru a W.r ≤ 2 := by unfold zla; split <;> (try split) <;> omega
      refine brlt (zla ru a W.r) (w - 1) (fun q4 => ?_) (fun q4 => ?_) (hy := by rw [ez, show (1 : Int32) = jI 1 from rfl, jsub])
      · rw [if_pos (Or.inr ⟨by
          have : ¬ myD ru (w - 1) (W.f 3) a := fun z => by have := zm.2 z; omega
          unfold myD at this
          omega, fun z => by have := zm.2 z; omega⟩)] at hq
        exact hq
      · have my := zm.1 q4
        rw [if_neg (fun z => z.elim (fun v => v q) (fun v => v.2 my)), if_neg q3] at hq
        unfold myD at my
        have hm : w - 1 = 0 ∨ (ru 9 ≤ (a.toNat : Int) ∧ (a.toNat : Int) + ru 10 < ru 1) ∧ (w - 1 = 1 ∨ w - 1 = 2 ∧ 0 < W.r) := by omega
        have hb := hK.c (t := a.toNat) (by omega) (h := b.toNat) (by omega) (w - 1) hm
        have e : (jI (wCo ru W (w - 1) a.toNat b.toNat)).toInt64 = jL (wCo ru W (w - 1) a.toNat b.toNat) := jI_L (by omega)
        rw [← e] at hq
        exact k_costOf (nd a.toNat b.toNat) (w - 1) _ (Or.inr (Or.inl rfl)) g2.1 (by omega) (by omega) (Nt_cost hK.2.1.1.1 hN (by omega) (w - 1) hm) hq (ey := by rw [ez, show (1 : Int32) = jI 1 from rfl, jsub])
theorem k_byPolicy {x y : Int32} (a b : Int) (hK : KQ σ ru W) (ra : R31 a) (rb : R31 b) (hq : ∀ τ, QK σ τ → CI τ ru → Q (some (.long (jL (aByPolicy ru W a b)))) τ) (ex : x = jI a := by first | rfl | assumption | (simp only [jlit, jneg, jadd, jsub, jmul]; done) | (simp only [jlit, jneg, jadd, jsub, jmul]; congr 1 <;> omega) | (congr 1 <;> omega)) (ey : y = jI b := by first | rfl | assumption | (simp only [jlit, jneg, jadd, jsub, jmul]; done) | (simp only [jlit, jneg, jadd, jsub, jmul]; congr 1 <;> omega) | (congr 1 <;> omega)) : MW l G (d + 6) mX11_byPolicy [.ref 0, .int x, .int y] σ Q := by
  have h12 := hK.ru
  obtain ⟨hr3, r2, ht, hh, hht, _, _, bc⟩ := hK.r
  unfold aByPolicy at hq
  refine vX11_byPolicy [] 90 ?_
  refine k_isN a b hK ra rb ?_
  refine brz _ (fun q => ?_) (fun q => ?_)
  · rw [if_neg q] at hq
    exact hq σ QK.rf hK.2.1
  · rw [if_pos q] at hq
    have hn := nd_lt2 (t := a.toNat) (h := b.toNat) (by omega) (by omega)
    refine k_told0 hK (fun τ g1 g2 g3 g4 g5 g6 g7 g8 g9 => ?_)
    refine k_nodeOf a.toNat b.toNat ?_ (by rw [ex]; congr 1; omega) (by rw [ey]; congr 1; omega)
    refine ldI 91 (nd a.toNat b.toNat) (show _ = jI (wZP ru W a.toNat b.toNat) from (g6 a.toNat b.toNat (by omega) (by omega)).2.2.2.2) ?_
    have hb := hK.b (some W.de) (Or.inr (Or.inl rfl)) hK.ra W.r a.toNat b.toNat (by omega) (by omega) r2
    have e : (jI (wZP ru W a.toNat b.toNat)).toInt64 = jL (wZP ru W a.toNat b.toNat) := jI_L (by unfold wZP; omega)
    have hq := hq τ g1 g2
    rw [← e] at hq
    exact hq
theorem k_mended {x y : Int32} (a b : Int) (hK : KQ σ ru W) (ra : R31 a) (rb : R31 b) (hq : ∀ τ, QK σ τ → CI τ ru → Q (some (.int (jI (aMended ru W a b)))) τ) (ex : x = jI a := by first | rfl | assumption | (simp only [jlit, jneg, jadd, jsub, jmul]; done) | (simp only [jlit, jneg, jadd, jsub, jmul]; congr 1 <;> omega) | (congr 1 <;> omega)) (ey : y = jI b := by first | rfl | assumption | (simp only [jlit, jneg, jadd, jsub, jmul]; done) | (simp only [jlit, jneg, jadd, jsub, jmul]; congr 1 <;> omega) | (congr 1 <;> omega)) : MW l G (d + 6) mX11_mended [.ref 0, .int x, .int y] σ Q := by
  have h12 := hK.ru
  obtain ⟨hr3, r2, ht, hh, hht, _, _, bc⟩ := hK.r
  unfold aMended at hq
  refine vX11_mended [] 90 ?_
  refine k_isN a b hK ra rb ?_
  refine brz _ (fun q => ?_) (fun q => ?_)
  · rw [if_neg q] at hq
    exact hq σ QK.rf hK.2.1
  · rw [if_pos q] at hq
    have hn := nd_lt2 (t := a.toNat) (h := b.toNat) (by omega) (by omega)
    refine k_told0 hK (fun τ g1 g2 g3 g4 g5 g6 g7 g8 g9 => ?_)
    have hN := g6 a.toNat b.toNat (by omega) (by omega)
    refine k_nodeOf a.toNat b.toNat ?_ (by rw [ex]; congr 1; omega) (by rw [ey]; congr 1; omega)
    refine k_lastAllowed (r := W.r) a g2.1 (by omega) (by omega) ?_
    have zi : 0 ≤ zla ru a W.r ∧ zla ru a W.r ≤ 2 := by unfold zla; split <;> (try split) <;> omega
    have hq := hq τ g1 g2
    have zm := fun dd hd => zla_my hK a dd hd
    have z0 := hK.cM (t := a.toNat) (by omega) (h := b.toNat) (by omega) 0 (Or.inl rfl)
    have e1 : 1 ≤ zla ru a W.r → (ru 9 ≤ (a.toNat : Int) ∧ (a.toNat : Int) + ru 10 < ru 1) := fun z => by
      have := (zm 1 (by omega)).1 z
      unfold myD at this
      omega
    have e2 : 2 ≤ zla ru a W.r → (ru 9 ≤ (a.toNat : Int) ∧ (a.toNat : Int) + ru 10 < ru 1) ∧ 0 < W.r := fun z => by
      have := (zm 2 (by omega)).1 z
      unfold myD at this
      omega
    have z1 : 1 ≤ zla ru a W.r → _ := fun z => hK.cM (t := a.toNat) (by omega) (h := b.toNat) (by omega) 1 (Or.inr ⟨e1 z, Or.inl rfl⟩)
    have z2 : 2 ≤ zla ru a W.r → _ := fun z => hK.cM (t := a.toNat) (by omega) (h := b.toNat) (by omega) 2 (Or.inr ⟨(e2 z).1, Or.inr ⟨rfl, (e2 z).2⟩⟩)
    have c1 := fun z => Nt_cost hK.2.1.1.1 hN (by omega) 1 (Or.inr ⟨e1 z, Or.inl rfl⟩)
    have c2 := fun z => Nt_cost hK.2.1.1.1 hN (by omega) 2 (Or.inr ⟨(e2 z).1, Or.inr ⟨rfl, (e2 z).2⟩⟩)
    have ez : (a.toNat : Int) = a := Int.toNat_of_nonneg q.1
    have hz := zbd_al (am := W.am) (ra := W.ra) (cp := W.f 2) (B := zco ru W.am W.ra (some W.de) W.r (W.f 2)) (N := zN ru W.am W.ra (some W.de) W.r) (h := b.toNat) (t := a.toNat) (r := (W.r : Int)) (ru := ru) (al := zla ru a W.r) (by rw [ez])
    unfold wMe at hq
    rw [← hz] at hq
    refine k_leastDeed (nd a.toNat b.toNat) (zla ru a W.r) _ _ _ (Or.inr (Or.inr (Or.inl rfl))) g2.1 (by omega) zi hN.1 (fun z => ?_) (fun z => ?_) (show R31 (zcd ru W.am W.ra (W.f 2) (zco ru W.am W.ra (some W.de) W.r (W.f 2)) (zN ru W.am W.ra (some W.de) W.r) 0 a.toNat b.toNat) by omega) ?_ ?_ hq
    · rw [if_pos z]
      exact c1 z
    · rw [if_pos z]
      exact c2 z
    · split
      · next z => have := z1 z; omega
      · omega
    · split
      · next z => have := z2 z; omega
      · omega
theorem k_regret (hK : KQ σ ru W) (hq : ∀ τ, QK σ τ → CI τ ru → Q (some (.long (jL (aRegret ru W)))) τ) : MW l G (d + 6) mX11_regret [.ref 0] σ Q := by
  have h12 := hK.ru
  obtain ⟨hr3, r2, ht, hh, hht, _, h6t, bc⟩ := hK.r
  unfold aRegret at hq
  refine vX11_regret [] 90 ?_
  refine k_over hK ?_
  refine brz _ (fun q => ?_) (fun q => ?_)
  · rw [if_neg q] at hq
    have h6 : W.f 6 = 0 := by omega
    have hT := h6t h6
    have hn := nd_lt2 (t := W.t) (h := W.h) (by omega) hht
    refine k_least0 hK (fun τ g1 g2 g3 g4 g5 g6 g7 g8 g9 => ?_)
    have K1 := hK.fr g1 g2
    refine k_hereD W.t W.h K1.1 ht.symm hh.symm (by omega) ?_
    refine ldI 91 (nd W.t W.h) (show _ = jI (wZ ru W W.t W.h) from (g6 W.t W.h hT hht).2.2.2.2) ?_
    refine k_told0 K1 (fun ρ p1 p2 p3 p4 p5 p6 p7 p8 p9 => ?_)
    have K2 := K1.fr p1 p2
    refine k_hereD W.t W.h K2.1 ht.symm hh.symm (by omega) ?_
    refine ldI 91 (nd W.t W.h) (show _ = jI (wZP ru W W.t W.h) from (p6 W.t W.h hT hht).2.2.2.2) ?_
    have hq := hq ρ (g1.tr p1) p2
    have b1 := hK.b none (Or.inl rfl) hK.ra W.r W.t W.h (by omega) hht r2
    have b2 := hK.b (some W.de) (Or.inr (Or.inl rfl)) hK.ra W.r W.t W.h (by omega) hht r2
    have e : (jI (wZP ru W W.t W.h) - jI (wZ ru W W.t W.h)).toInt64 = jL (wZP ru W W.t W.h - wZ ru W W.t W.h) := by
      rw [jsub]
      exact jI_L (by unfold wZP wZ; omega)
    rw [← e] at hq
    exact hq
  · rw [if_pos q] at hq
    exact hq σ QK.rf hK.2.1
theorem k_shifted {x : Int32} (s : Int) (hK : KQ σ ru W) (rs : R31 s) (hq : ∀ τ, QK σ τ → CI τ ru → Q (some (.long (jL (aShifted ru W s)))) τ) (ex : x = jI s := by first | rfl | assumption | (simp only [jlit, jneg, jadd, jsub, jmul]; done) | (simp only [jlit, jneg, jadd, jsub, jmul]; congr 1 <;> omega) | (congr 1 <;> omega)) : MW l G (d + 6) mX11_shifted [.ref 0, .int x] σ Q := by
  have h12 := hK.ru
  obtain ⟨hr3, r2, ht, hh, hht, _, h6t, bc⟩ := hK.r
  unfold aShifted at hq
  have no : W.f 6 = 1 ∨ ¬ (-99 ≤ s ∧ s ≤ 99) → Q (some (.long (jL (-1)))) σ := fun q => by
    rw [if_pos q] at hq
    exact hq σ QK.rf hK.2.1
  refine vX11_shifted [] 90 ?_
  refine k_over hK ?_
  refine brz _ (fun q => ?_) (fun q => no (Or.inl q))
  refine brlt s (-99) (fun z => no (by omega)) (fun q1 => ?_)
  refine brle s 99 (fun q2 => ?_) (fun z => no (by omega))
  rw [if_neg (by omega)] at hq
  have hT := h6t (by omega)
  have hn := nd_lt2 (t := W.t) (h := W.h) (by omega) hht
  refine k_least s ⟨q1, q2⟩ hK (fun τ g1 g2 g3 g4 g5 g6 g7 g8 g9 => ?_)
  have K1 := hK.fr g1 g2
  refine k_hereD W.t W.h K1.1 ht.symm hh.symm (by omega) ?_
  refine ldI 91 (nd W.t W.h) (show _ = jI (zco ru W.am (wRS W s) none W.r (W.f 2) W.t W.h) from (g6 W.t W.h hT hht).2.2.2.2) ?_
  have hq := hq τ g1 g2
  have b1 := hK.b none (Or.inl rfl) (wRS_in W s) W.r W.t W.h (by omega) hht r2
  have e : (jI (zco ru W.am (wRS W s) none W.r (W.f 2) W.t W.h)).toInt64 = jL (zco ru W.am (wRS W s) none W.r (W.f 2) W.t W.h) := jI_L (by omega)
  rw [← e] at hq
  exact hq
theorem k_margin (hK : KQ σ ru W) (hq : ∀ τ, QK σ τ → CI τ ru → Q (some (.long (jL (aMargin ru W)))) τ) : MW l G (d + 6) mX11_margin [.ref 0] σ Q := by
  have h12 := hK.ru
  have hr := hK.2.1.1.1
  obtain ⟨hr3, r2, ht, hh, hht, _, h6t, bc⟩ := hK.r
  unfold aMargin at hq
  have no : W.f 6 = 1 ∨ ¬ (ru 9 ≤ W.f 0 ∧ W.f 0 + ru 10 < ru 1) → Q (some (.long (jL (-1000000)))) σ := fun q => by
    rw [if_pos q] at hq
    exact hq σ QK.rf hK.2.1
  have hW0 := hK.2.2.1
  refine vX11_margin [(79, [0, 1, 2, 3])] 90 ?_
  refine k_over hK ?_
  refine brz _ (fun q => ?_) (fun q => no (Or.inl q))
  refine ldI 115 0 (hK.1.1 0 (by omega)) ?_
  refine k_mayCall (W.f 0) hK.2.1.1 (by omega) ?_
  refine brz _ (fun q2 => no (Or.inr q2)) (fun q2 => ?_)
  rw [if_neg (fun z => z.elim q (fun v => v q2))] at hq
  have hT := h6t (by omega)
  have hn := nd_lt2 (t := W.t) (h := W.h) (by omega) hht
  refine k_least0 hK (fun τ g1 g2 g3 g4 g5 g6 g7 g8 g9 => ?_)
  have K1 := hK.fr g1 g2
  have hN := g6 W.t W.h hT hht
  refine k_hereD W.t W.h K1.1 ht.symm hh.symm (by omega) ?_
  have m1 : (1 : Int) = 0 ∨ (ru 9 ≤ (W.t : Int) ∧ (W.t : Int) + ru 10 < ru 1) ∧ ((1 : Int) = 1 ∨ (1 : Int) = 2 ∧ 0 < W.r) := by omega
  have b0 := hK.c hT hht 0 (Or.inl rfl)
  have b1 := hK.c hT hht 1 m1
  have hq := hq τ g1 g2
  have fin : ∀ v : Int32, v = jI (if 0 < W.f 3 then min (wCo ru W 1 W.t W.h) (wCo ru W 2 W.t W.h) else wCo ru W 1 W.t W.h) → (0 ≤ (if 0 < W.f 3 then min (wCo ru W 1 W.t W.h) (wCo ru W 2 W.t W.h) else wCo ru W 1 W.t W.h) ∧ (if 0 < W.f 3 then min (wCo ru W 1 W.t W.h) (wCo ru W 2 W.t W.h) else wCo ru W 1 W.t W.h) ≤ 1000000) → Wp l G (d + 6) mX11_margin 79 [(0, .ref 0), (1, .ref 31), (2, .int (jI (nd W.t W.h : Nat))), (3, .int v)] [] τ Q := by
    intro v hv hb
    refine wX11_margin [] 60 ?_
    refine ldI 91 (nd W.t W.h) (show _ = jI (wCo ru W 0 W.t W.h) from hN.1) ?_
    have e : (jI (wCo ru W 0 W.t W.h) - v).toInt64 = jL (wCo ru W 0 W.t W.h - (if 0 < W.f 3 then min (wCo ru W 1 W.t W.h) (wCo ru W 2 W.t W.h) else wCo ru W 1 W.t W.h)) := by
      rw [hv, jsub]
      exact jI_L (by omega)
    rw [← e] at hq
    exact hq
  refine k_costOf (nd W.t W.h) 1 _ (Or.inr (Or.inl rfl)) g2.1 (by omega) (by omega) (Nt_cost hr hN hT 1 m1) ?_
  refine brle (W.r : Int) 0 (fun z => ?_) (fun z => ?_)
  · rw [if_neg (by omega)] at fin
    exact fin _ rfl (by omega)
  · have m2 : (2 : Int) = 0 ∨ (ru 9 ≤ (W.t : Int) ∧ (W.t : Int) + ru 10 < ru 1) ∧ ((2 : Int) = 1 ∨ (2 : Int) = 2 ∧ 0 < W.r) := by omega
    have b2 := hK.c hT hht 2 m2
    refine k_costOf (nd W.t W.h) 2 _ (Or.inr (Or.inl rfl)) g2.1 (by omega) (by omega) (Nt_cost hr hN hT 2 m2) ?_
    rw [if_pos (by omega)] at fin
    refine fin _ ?_ (by omega)
    show (if jI (wCo ru W 2 W.t W.h) < jI (wCo ru W 1 W.t W.h) then jI (wCo ru W 2 W.t W.h) else jI (wCo ru W 1 W.t W.h)) = _
    by_cases z3 : wCo ru W 2 W.t W.h < wCo ru W 1 W.t W.h
    · rw [if_pos ((jlt (by omega) (by omega)).mpr z3)]
      congr 1
      omega
    · rw [if_neg (fun w => z3 ((jlt (by omega) (by omega)).mp w))]
      congr 1
      omega
end KQ2
