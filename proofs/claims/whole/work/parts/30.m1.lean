-- the reference: rates, years, costs
def PM (σ : Mm) (w : Nat) (ru : Nat → Int) (ra : Nat → Nat → Int) : Prop := RB ru ∧ lenI w = 494 ∧ (∀ k, k < 14 → σ.1 101 k = jI (ru k)) ∧ ∃ s : Int, σ.1 98 27 = jI s ∧ -99 ≤ s ∧ s ≤ 99 ∧ ∀ t h : Nat, (t : Int) < ru 1 → h ≤ t → ∃ tr : Int, σ.1 w (25 + (12 * t + h)) = jI tr ∧ (tr = -1 ∨ 0 ≤ tr ∧ tr ≤ 999) ∧ ra t h = zra ru tr s t h
theorem PM.ra {σ : Mm} {w : Nat} {ru : Nat → Int} {ra : Nat → Nat → Int} (h : PM σ w ru ra) {t k : Nat} (ht : (t : Int) < ru 1) (hk : k ≤ t) : 0 ≤ ra t k ∧ ra t k ≤ 999 := by
  obtain ⟨-, -, -, s, -, -, -, h⟩ := h
  obtain ⟨tr, -, -, e⟩ := h t k ht hk
  rw [e]
  exact bnd_in _
theorem PM.fr {σ τ : Mm} {w : Nat} {ru : Nat → Int} {ra : Nat → Nat → Int} (h : PM σ w ru ra) (h1 : τ.1 101 = σ.1 101) (h2 : τ.1 w = σ.1 w) (h3 : τ.1 98 27 = σ.1 98 27) : PM τ w ru ra := by
  obtain ⟨a, b, c, s, e, f, g, h⟩ := h
  refine ⟨a, b, fun k hk => by rw [h1]; exact c k hk, s, by rw [h3]; exact e, f, g, fun t k ht hk => ?_⟩
  rw [h2]
  exact h t k ht hk
def LY (σ : Mm) (ru am : Nat → Int) : Prop := (∀ j, 0 ≤ am j) ∧ ∀ t : Nat, (t : Int) ≤ ru 1 → σ.1 112 t = jI (zl ru am t) ∧ σ.1 113 t = jI (zp ru am t) ∧ σ.1 114 t = jI (zpr ru am t)
theorem LY.fr {σ τ : Mm} {ru am : Nat → Int} (h : LY σ ru am) (h1 : τ.1 112 = σ.1 112) (h2 : τ.1 113 = σ.1 113) (h3 : τ.1 114 = σ.1 114) : LY τ ru am := ⟨h.1, fun t ht => by rw [h1, h2, h3]; exact h.2 t ht⟩
section ML
variable {l : Launch} {G : GT} {d : Nat} {σ : Mm} {Q : Po} {ru am : Nat → Int} {ra : Nat → Nat → Int} {w : Nat}
theorem c_isIn {x a b : Int64} (x' a' b' : Int) (h : Q (some (.int (if a' ≤ x' ∧ x' ≤ b' then 1 else 0))) σ) (ex : x = jL x' := by first | rfl | assumption | (simp only [jLlit, jLadd, jLsub, jLmul]; done) | (simp only [jLlit, jLadd, jLsub, jLmul]; congr 1 <;> omega) | (congr 1 <;> omega)) (ea : a = jL a' := by first | rfl | assumption | (simp only [jLlit, jLadd, jLsub, jLmul]; done) | (simp only [jLlit, jLadd, jLsub, jLmul]; congr 1 <;> omega) | (congr 1 <;> omega)) (eb : b = jL b' := by first | rfl | assumption | (simp only [jLlit, jLadd, jLsub, jLmul]; done) | (simp only [jLlit, jLadd, jLsub, jLmul]; congr 1 <;> omega) | (congr 1 <;> omega)) (hx : R63 x' := by omega) (ha : R63 a' := by omega) (hb : R63 b' := by omega) : MW l G d mX12_isIn [.long x, .long a, .long b] σ Q := by
  refine vX12_isIn [] 30 ?_
  refine bclt x' a' (fun h1 => ?_) (fun h1 => ?_) ex ea hx ha
  · rw [if_neg (by omega)] at h
    exact And.intro (Or.inl rfl) h
  · refine bcgt x' b' (fun h2 => ?_) (fun h2 => ?_) ex eb hx hb
    · rw [if_neg (by omega)] at h
      exact And.intro (Or.inl rfl) h
    · rw [if_pos (by omega)] at h
      exact And.intro (Or.inr rfl) h
theorem c_bound {x : Int32} (z : Int) (h : Q (some (.int (jI (bnd z)))) σ) (ex : x = jI z := by first | rfl | assumption | (simp only [jlit, jneg, jadd, jsub, jmul]; done) | (simp only [jlit, jneg, jadd, jsub, jmul]; congr 1 <;> omega) | (congr 1 <;> omega)) (hz : R31 z := by omega) : MW l G d mX12_bound [.int x] σ Q := by
  subst ex
  refine vX12_bound [] 30 ?_
  unfold bnd at h
  refine brle 0 z (fun h1 => ?_) (fun h1 => ?_)
  · refine brle z 999 (fun h2 => ?_) (fun h2 => ?_)
    · rw [if_neg (by omega), if_neg (by omega)] at h
      exact h
    · rw [if_neg (by omega), if_pos (by omega)] at h
      exact h
  · rw [if_pos (by omega)] at h
    exact h
theorem c_node {x y : Int32} (t h : Int) (hq : Q (some (.int (jI (12 * t + h)))) σ) (ex : x = jI t := by first | rfl | assumption | (simp only [jlit, jneg, jadd, jsub, jmul]; done) | (simp only [jlit, jneg, jadd, jsub, jmul]; congr 1 <;> omega) | (congr 1 <;> omega)) (ey : y = jI h := by first | rfl | assumption | (simp only [jlit, jneg, jadd, jsub, jmul]; done) | (simp only [jlit, jneg, jadd, jsub, jmul]; congr 1 <;> omega) | (congr 1 <;> omega)) : MW l G d mX12_node [.int x, .int y] σ Q := by
  subst ex; subst ey
  refine vX12_node [] 30 ?_
  rw [← jadd, ← jmul] at hq
  exact hq
theorem c_cell {x y z u : Int32} (r by_ t h : Int) (hq : Q (some (.int (jI ((145 * r + by_) * 144 + (12 * t + h))))) σ) (ex : x = jI r := by first | rfl | assumption | (simp only [jlit, jneg, jadd, jsub, jmul]; done) | (simp only [jlit, jneg, jadd, jsub, jmul]; congr 1 <;> omega) | (congr 1 <;> omega)) (ey : y = jI by_ := by first | rfl | assumption | (simp only [jlit, jneg, jadd, jsub, jmul]; done) | (simp only [jlit, jneg, jadd, jsub, jmul]; congr 1 <;> omega) | (congr 1 <;> omega)) (ez : z = jI t := by first | rfl | assumption | (simp only [jlit, jneg, jadd, jsub, jmul]; done) | (simp only [jlit, jneg, jadd, jsub, jmul]; congr 1 <;> omega) | (congr 1 <;> omega)) (eu : u = jI h := by first | rfl | assumption | (simp only [jlit, jneg, jadd, jsub, jmul]; done) | (simp only [jlit, jneg, jadd, jsub, jmul]; congr 1 <;> omega) | (congr 1 <;> omega)) : MW l G (d + 1) mX12_cell [.int x, .int y, .int z, .int u] σ Q := by
  subst ex; subst ey; subst ez; subst eu
  refine vX12_cell [] 30 ?_
  refine c_node t h ?_
  rw [← jadd, ← jmul, ← jadd, ← jmul] at hq
  exact hq
theorem c_rateOf {y z : Int32} (t h : Nat) (hP : PM σ w ru ra) (ht : (t : Int) < ru 1) (hh : h ≤ t) (hq : Q (some (.int (jI (ra t h)))) σ) (ey : y = jI t := by first | rfl | assumption | (simp only [jlit, jneg, jadd, jsub, jmul]; done) | (simp only [jlit, jneg, jadd, jsub, jmul]; congr 1 <;> omega) | (congr 1 <;> omega)) (ez : z = jI h := by first | rfl | assumption | (simp only [jlit, jneg, jadd, jsub, jmul]; done) | (simp only [jlit, jneg, jadd, jsub, jmul]; congr 1 <;> omega) | (congr 1 <;> omega)) : MW l G (d + 1) mX12_rateOf [.ref 98, .ref w, .int y, .int z] σ Q := by
  obtain ⟨hr, hw, hru, s, h3, h4, h5, hta⟩ := id hP
  obtain ⟨tr, h1, h2, he⟩ := hta t h ht hh
  have hr' := hr
  unfold RB at hr'
  rw [he] at hq
  subst ey; subst ez
  refine vX12_rateOf [] 60 ?_
  refine c_node t h ?_
  have hu := mul_le_c (a := (h : Int)) (b := ru 4) (A := 12) (B := 99) (by omega) (by omega) (by omega) (by omega)
  have hd := mul_le_c (a := (t : Int) - h) (b := ru 5) (A := 12) (B := 99) (by omega) (by omega) (by omega) (by omega)
  unfold zra at hq
  refine ldI (lenI w) (25 + (12 * t + h)) h1 ?_
  refine breq tr (-1) (fun h6 => ?_) (fun h6 => ?_)
  · rw [if_pos h6] at hq
    refine ldI 14 3 (hru 3 (by omega)) ?_
    refine ldI 14 4 (hru 4 (by omega)) ?_
    refine ldI 14 5 (hru 5 (by omega)) ?_
    refine c_bound (ru 3 + h * ru 4 - ((t : Int) - h) * ru 5) ?_
    have hb := bnd_in (ru 3 + h * ru 4 - ((t : Int) - h) * ru 5)
    show MW _ _ _ _ [.int (_ + σ.1 98 27)] _ _
    rw [h3]
    exact c_bound (bnd (ru 3 + h * ru 4 - ((t : Int) - h) * ru 5) + s) hq
  · rw [if_neg h6] at hq
    show MW _ _ _ _ [.int (_ + σ.1 98 27)] _ _
    rw [h3]
    exact c_bound (tr + s) hq
theorem c_newCoupon {y z : Int32} (t h : Nat) (hP : PM σ w ru ra) (ht : (t : Int) < ru 1) (hh : h ≤ t) (hq : Q (some (.int (jI (min 999 (ra t h + ru 12))))) σ) (ey : y = jI t := by first | rfl | assumption | (simp only [jlit, jneg, jadd, jsub, jmul]; done) | (simp only [jlit, jneg, jadd, jsub, jmul]; congr 1 <;> omega) | (congr 1 <;> omega)) (ez : z = jI h := by first | rfl | assumption | (simp only [jlit, jneg, jadd, jsub, jmul]; done) | (simp only [jlit, jneg, jadd, jsub, jmul]; congr 1 <;> omega) | (congr 1 <;> omega)) : MW l G (d + 2) mX12_newCoupon [.ref 98, .ref w, .int y, .int z] σ Q := by
  have hr := hP.1
  unfold RB at hr
  have h0 := hP.ra ht hh
  refine vX12_newCoupon [] 60 ?_
  refine c_rateOf t h hP ht hh ?_ ey ez
  refine ldI 14 12 (hP.2.2.1 12 (by omega)) ?_
  refine brle (ra t h + ru 12) 999 (fun h1 => ?_) (fun h1 => ?_)
  · rw [show min 999 (ra t h + ru 12) = ra t h + ru 12 by omega, ← jadd] at hq
    exact hq
  · rw [show min 999 (ra t h + ru 12) = 999 by omega] at hq
    exact hq
theorem c_interest {c y : Int32} (cp : Int) (t : Nat) (hr : RB ru) (hL : LY σ ru am) (h1 : 1 ≤ t) (h2 : (t : Int) ≤ ru 1) (hc : 0 ≤ cp ∧ cp ≤ 999) (hq : Q (some (.int (jI (zi ru am cp t)))) σ) (ec : c = jI cp := by first | rfl | assumption | (simp only [jlit, jneg, jadd, jsub, jmul]; done) | (simp only [jlit, jneg, jadd, jsub, jmul]; congr 1 <;> omega) | (congr 1 <;> omega)) (ey : y = jI t := by first | rfl | assumption | (simp only [jlit, jneg, jadd, jsub, jmul]; done) | (simp only [jlit, jneg, jadd, jsub, jmul]; congr 1 <;> omega) | (congr 1 <;> omega)) : MW l G d mX12_interest [.ref 98, .int c, .int y] σ Q := by
  have h12 : ru 1 ≤ 12 := by unfold RB at hr; omega
  have h3 := zl_in hr hL.1 (t - 1)
  have h4 := mul_le_c h3.1 h3.2 hc.1 hc.2
  subst ec; subst ey
  refine vX12_interest [] 30 ?_
  refine ldI 13 (t - 1) (hL.2 (t - 1) (by omega)).1 ?_
  refine And.intro (by decide) ?_
  unfold zi at hq
  rw [jlit, jmul, jdiv h4.1 (by omega) (by omega) (by omega)]
  exact hq
theorem c_due {c y : Int32} (cp : Int) (t : Nat) (hr : RB ru) (hL : LY σ ru am) (h1 : 1 ≤ t) (h2 : (t : Int) ≤ ru 1) (hc : 0 ≤ cp ∧ cp ≤ 999) (hq : Q (some (.int (jI (zd ru am cp t)))) σ) (ec : c = jI cp := by first | rfl | assumption | (simp only [jlit, jneg, jadd, jsub, jmul]; done) | (simp only [jlit, jneg, jadd, jsub, jmul]; congr 1 <;> omega) | (congr 1 <;> omega)) (ey : y = jI t := by first | rfl | assumption | (simp only [jlit, jneg, jadd, jsub, jmul]; done) | (simp only [jlit, jneg, jadd, jsub, jmul]; congr 1 <;> omega) | (congr 1 <;> omega)) : MW l G (d + 1) mX12_due [.ref 98, .int c, .int y] σ Q := by
  have h12 : ru 1 ≤ 12 := by unfold RB at hr; omega
  refine vX12_due [] 30 ?_
  refine ldI 13 t (hL.2 t h2).2.1 ?_ (hi := ey)
  refine c_interest cp t hr hL h1 h2 hc ?_ ec ey
  unfold zd at hq
  rw [← jadd] at hq
  exact hq
theorem c_next {y z : Int32} {u v : Int64} (t h : Nat) (A B : Int) (hP : PM σ w ru ra) (ht : (t : Int) < ru 1) (hh : h ≤ t) (hA : 0 ≤ A ∧ A ≤ 1099511627776) (hB : 0 ≤ B ∧ B ≤ 1099511627776) (hq : Q (some (.long (jL (zn ru ra t h A B)))) σ) (ey : y = jI t := by first | rfl | assumption | (simp only [jlit, jneg, jadd, jsub, jmul]; done) | (simp only [jlit, jneg, jadd, jsub, jmul]; congr 1 <;> omega) | (congr 1 <;> omega)) (ez : z = jI h := by first | rfl | assumption | (simp only [jlit, jneg, jadd, jsub, jmul]; done) | (simp only [jlit, jneg, jadd, jsub, jmul]; congr 1 <;> omega) | (congr 1 <;> omega)) (eu : u = jL A := by first | rfl | assumption | (simp only [jLlit, jLadd, jLsub, jLmul]; done) | (simp only [jLlit, jLadd, jLsub, jLmul]; congr 1 <;> omega) | (congr 1 <;> omega)) (ev : v = jL B := by first | rfl | assumption | (simp only [jLlit, jLadd, jLsub, jLmul]; done) | (simp only [jLlit, jLadd, jLsub, jLmul]; congr 1 <;> omega) | (congr 1 <;> omega)) : MW l G (d + 2) mX12_next [.ref 98, .ref w, .int y, .int z, .long u, .long v] σ Q := by
  subst eu; subst ev
  have hr := hP.1
  have h0 := hP.ra ht hh
  have h1 := zn_in hr h0.1 hA.1 hA.2 hB.1 hB.2
  unfold RB at hr
  refine vX12_next [] 60 ?_
  refine ldI 14 6 (hP.2.2.1 6 (by omega)) ?_
  refine ldI 14 6 (hP.2.2.1 6 (by omega)) ?_
  refine c_rateOf t h hP ht hh ?_ ey ez
  have e1 : ((jI (ru 6)).toInt64 * jL A + ((100 : Int32) - jI (ru 6)).toInt64 * jL B) * (10 : Int64) = jL ((ru 6 * A + (100 - ru 6) * B) * 10) := by
    rw [jlit, jsub, jI_L (by omega), jI_L (by omega), jLlit, jLmul, jLmul, jLadd, jLmul]
  have e2 : ((1000 : Int32) + jI (ra t h)).toInt64 = jL (1000 + ra t h) := by rw [jlit, jadd, jI_L (by omega)]
  show (¬ ((1000 : Int32) + jI (ra t h)).toInt64 = 0) ∧ Q (some (.long (((jI (ru 6)).toInt64 * jL A + ((100 : Int32) - jI (ru 6)).toInt64 * jL B) * (10 : Int64) / ((1000 : Int32) + jI (ra t h)).toInt64))) σ
  rw [e1, e2]
  refine And.intro (fun q => ?_) ?_
  · rw [jLlit, jLeq (by omega) (by omega)] at q
    omega
  · rw [jLdiv (by omega) (by omega) (by omega) (by omega)]
    exact hq
end ML
