-- the class: nodes, years, a table's parts
def nd (t h : Nat) : Nat := t * (t + 1) / 2 + h
theorem nd_up (t h : Nat) : nd (t + 1) (h + 1) = nd t h + t + 2 := by
  unfold nd
  have : (t + 1) * (t + 1 + 1) = t * (t + 1) + 2 * (t + 1) := by rw [← Nat.add_mul, Nat.mul_comm]
  rw [this, Nat.add_mul_div_left _ _ (by omega)]
  omega
theorem nd_dn (t h : Nat) : nd (t + 1) h = nd t h + t + 1 := by
  have := nd_up t h
  have e : nd (t + 1) (h + 1) = nd (t + 1) h + 1 := by unfold nd; omega
  omega
theorem nd_row {t : Nat} (h : t ≤ 12) : t * (t + 1) / 2 ≤ 78 := by
  have : t * (t + 1) ≤ 12 * 13 := Nat.mul_le_mul h (by omega)
  omega
theorem nd_mono {t t' : Nat} (h : t < t') : t * (t + 1) / 2 + t < t' * (t' + 1) / 2 := by
  have h1 : (t + 1) * (t + 2) ≤ t' * (t' + 1) := Nat.mul_le_mul h (by omega)
  have h2 : (t + 1) * (t + 2) = t * (t + 1) + 2 * (t + 1) := by rw [← Nat.add_mul, Nat.mul_comm]
  omega
theorem nd_inj {t h t' h' : Nat} (hh : h ≤ t) (hh' : h' ≤ t') (e : nd t h = nd t' h') : t = t' ∧ h = h' := by
  unfold nd at e
  rcases Nat.lt_trichotomy t t' with q | q | q
  · have := nd_mono q; omega
  · subst q; exact ⟨rfl, by omega⟩
  · have := nd_mono q; omega
theorem nd_lt {t h : Nat} (ht : t ≤ 12) (hh : h ≤ t) : nd t h < 91 := by
  have := nd_row ht
  unfold nd
  omega
theorem nd_lt2 {t h : Nat} (ht : t < 12) (hh : h ≤ t) : nd t h < 78 := by
  have h1 : t * (t + 1) ≤ 11 * 12 := Nat.mul_le_mul (by omega) (by omega)
  unfold nd
  omega
def RC (σ : Mm) (ru : Nat → Int) : Prop := RB ru ∧ ∀ k, k < 14 → σ.1 1 k = jI (ru k)
def LC (σ : Mm) (ru am : Nat → Int) : Prop := (∀ j, 0 ≤ am j) ∧ ∀ t : Nat, (t : Int) ≤ ru 1 → σ.1 16 t = jI (zl ru am t) ∧ (1 ≤ t → σ.1 17 t = jI (zp ru am t)) ∧ σ.1 18 t = jI (zpr ru am t)
def SC (σ : Mm) (ru : Nat → Int) (ra : Nat → Nat → Int) : Prop := ∀ t h : Nat, (t : Int) < ru 1 → h ≤ t → σ.1 55 (25 + nd t h) = jI (ra t h) ∧ 0 ≤ ra t h ∧ ra t h ≤ 999
theorem RC.fr {σ τ : Mm} {ru : Nat → Int} (h : RC σ ru) (e : τ.1 1 = σ.1 1) : RC τ ru := ⟨h.1, fun k hk => by rw [e]; exact h.2 k hk⟩
theorem LC.fr {σ τ : Mm} {ru am : Nat → Int} (h : LC σ ru am) (e1 : τ.1 16 = σ.1 16) (e2 : τ.1 17 = σ.1 17) (e3 : τ.1 18 = σ.1 18) : LC τ ru am := ⟨h.1, fun t ht => by rw [e1, e2, e3]; exact h.2 t ht⟩
theorem SC.fr {σ τ : Mm} {ru : Nat → Int} {ra : Nat → Nat → Int} (h : SC σ ru ra) (e : τ.1 55 = σ.1 55) : SC τ ru ra := fun t k q1 q2 => by rw [e]; exact h t k q1 q2
section KL
variable {l : Launch} {G : GT} {d : Nat} {σ : Mm} {Q : Po} {ru am : Nat → Int} {ra : Nat → Nat → Int}
theorem k_nodeOf {x y : Int32} (t h : Nat) (hq : Q (some (.int (jI (nd t h)))) σ) (ex : x = jI t := by first | rfl | assumption | (simp only [jlit, jneg, jadd, jsub, jmul]; done) | (simp only [jlit, jneg, jadd, jsub, jmul]; congr 1 <;> omega) | (congr 1 <;> omega)) (ey : y = jI h := by first | rfl | assumption | (simp only [jlit, jneg, jadd, jsub, jmul]; done) | (simp only [jlit, jneg, jadd, jsub, jmul]; congr 1 <;> omega) | (congr 1 <;> omega)) (ht : t ≤ 100 := by omega) : MW l G d mX8_nodeOf [.int x, .int y] σ Q := by
  subst ex; subst ey
  refine vX8_nodeOf [] 30 ?_
  refine And.intro (by decide) ?_
  have hm : (t : Int) * (t + 1) ≤ 100 * 101 := (mul_le_c (a := (t : Int)) (b := (t : Int) + 1) (by omega) (by omega) (by omega) (by omega)).2
  have hm0 : 0 ≤ (t : Int) * (t + 1) := Int.mul_nonneg (by omega) (by omega)
  have e : jI (t : Int) * (jI t + 1) / 2 + jI h = jI (nd t h) := by
    rw [jlit, jlit, jadd, jmul, jdiv hm0 (by omega) (by omega) (by omega), jadd]
    congr 1
  rw [← e] at hq
  exact hq
theorem k_interestOf {x y : Int32} (t : Nat) (cp : Int) (hr : RB ru) (hL : LC σ ru am) (h1 : 1 ≤ t) (h2 : (t : Int) ≤ ru 1) (hc : 0 ≤ cp ∧ cp ≤ 999) (hq : Q (some (.int (jI (zi ru am cp t)))) σ) (ex : x = jI t := by first | rfl | assumption | (simp only [jlit, jneg, jadd, jsub, jmul]; done) | (simp only [jlit, jneg, jadd, jsub, jmul]; congr 1 <;> omega) | (congr 1 <;> omega)) (ey : y = jI cp := by first | rfl | assumption | (simp only [jlit, jneg, jadd, jsub, jmul]; done) | (simp only [jlit, jneg, jadd, jsub, jmul]; congr 1 <;> omega) | (congr 1 <;> omega)) : MW l G d mX8_interestOf [.ref 15, .int x, .int y] σ Q := by
  have h12 : ru 1 ≤ 12 := by unfold RB at hr; omega
  have h3 := zl_in hr hL.1 (t - 1)
  have h4 := mul_le_c h3.1 h3.2 hc.1 hc.2
  subst ex; subst ey
  refine vX8_interestOf [] 40 ?_
  refine brlt t 1 (fun q => by omega) (fun _ => ?_)
  refine brlt 12 t (fun q => by omega) (fun _ => ?_)
  refine ldI 13 (t - 1) (hL.2 (t - 1) (by omega)).1 ?_
  refine And.intro (by decide) ?_
  have e : jI (zl ru am (t - 1)) * jI cp / 1000 = jI (zi ru am cp t) := by
    unfold zi
    rw [jlit, jmul, jdiv h4.1 (by omega) (by omega) (by omega)]
  rw [← e] at hq
  exact hq
theorem k_dueAt {x y : Int32} (t : Nat) (cp : Int) (hr : RB ru) (hL : LC σ ru am) (h1 : 1 ≤ t) (h2 : (t : Int) ≤ ru 1) (hc : 0 ≤ cp ∧ cp ≤ 999) (hq : Q (some (.int (jI (zd ru am cp t)))) σ) (ex : x = jI t := by first | rfl | assumption | (simp only [jlit, jneg, jadd, jsub, jmul]; done) | (simp only [jlit, jneg, jadd, jsub, jmul]; congr 1 <;> omega) | (congr 1 <;> omega)) (ey : y = jI cp := by first | rfl | assumption | (simp only [jlit, jneg, jadd, jsub, jmul]; done) | (simp only [jlit, jneg, jadd, jsub, jmul]; congr 1 <;> omega) | (congr 1 <;> omega)) : MW l G (d + 1) mX8_dueAt [.ref 15, .int x, .int y] σ Q := by
  have h12 : ru 1 ≤ 12 := by unfold RB at hr; omega
  subst ex
  refine vX8_dueAt [] 40 ?_
  refine brlt t 1 (fun q => by omega) (fun _ => ?_)
  refine brlt 12 t (fun q => by omega) (fun _ => ?_)
  refine ldI 13 t ((hL.2 t h2).2.1 h1) ?_
  refine k_interestOf t cp hr hL h1 h2 hc ?_ rfl ey
  unfold zd at hq
  rw [← jadd] at hq
  exact hq
theorem k_renewalAt {x : Int32} (t : Nat) (hR : RC σ ru) (hL : LC σ ru am) (h2 : (t : Int) ≤ ru 1) (hq : Q (some (.int (jI (zpr ru am t - zl ru am t + ru 13)))) σ) (ex : x = jI t := by first | rfl | assumption | (simp only [jlit, jneg, jadd, jsub, jmul]; done) | (simp only [jlit, jneg, jadd, jsub, jmul]; congr 1 <;> omega) | (congr 1 <;> omega)) : MW l G d mX8_renewalAt [.ref 15, .int x] σ Q := by
  have h12 : ru 1 ≤ 12 := by have := hR.1; unfold RB at this; omega
  refine vX8_renewalAt [] 40 ?_
  refine ldI 13 t (hL.2 t h2).2.2 ?_ (hi := ex)
  refine ldI 13 t (hL.2 t h2).1 ?_ (hi := ex)
  refine ldI 14 13 (hR.2 13 (by omega)) ?_
  rw [← jadd, ← jsub] at hq
  exact hq
theorem k_couponAt {x : Int32} (z : Int) (hR : RC σ ru) (hz : -1000 ≤ z ∧ z ≤ 2000) (hq : Q (some (.int (jI (min 999 (z + ru 12))))) σ) (ex : x = jI z := by first | rfl | assumption | (simp only [jlit, jneg, jadd, jsub, jmul]; done) | (simp only [jlit, jneg, jadd, jsub, jmul]; congr 1 <;> omega) | (congr 1 <;> omega)) : MW l G (d + 1) mX8_couponAt [.ref 15, .int x] σ Q := by
  have hr := hR.1
  unfold RB at hr
  subst ex
  refine vX8_couponAt [] 40 ?_
  refine ldI 14 12 (hR.2 12 (by omega)) ?_
  have e : (if jI z + jI (ru 12) < (999 : Int32) then jI z + jI (ru 12) else (999 : Int32)) = jI (min 999 (z + ru 12)) := by
    rw [jadd, jlit]
    by_cases h : z + ru 12 < 999
    · rw [if_pos ((jlt (by omega) (by omega)).mpr h), show min 999 (z + ru 12) = z + ru 12 by omega]
    · rw [if_neg (fun q => h ((jlt (by omega) (by omega)).mp q)), show min 999 (z + ru 12) = 999 by omega]
  rw [← e] at hq
  exact hq
theorem k_couponOfNode {x : Int32} (t h : Nat) (hR : RC σ ru) (hS : SC σ ru ra) (ht : (t : Int) < ru 1) (hh : h ≤ t) (hq : Q (some (.int (jI (zcp ru ra t h)))) σ) (ex : x = jI (nd t h) := by first | rfl | assumption | (simp only [jlit, jneg, jadd, jsub, jmul]; done) | (simp only [jlit, jneg, jadd, jsub, jmul]; congr 1 <;> omega) | (congr 1 <;> omega)) : MW l G (d + 2) mX8_couponOfNode [.ref 15, .int x] σ Q := by
  have h12 : ru 1 ≤ 12 := by have := hR.1; unfold RB at this; omega
  obtain ⟨s1, s2, s3⟩ := hS t h ht hh
  have := nd_lt2 (t := t) (h := h) (by omega) hh
  subst ex
  refine vX8_couponOfNode [] 40 ?_
  refine ldI 115 (25 + nd t h) s1 ?_
  exact k_couponAt (ra t h) hR (by omega) hq
theorem k_mayCall {x : Int32} (t : Int) (hR : RC σ ru) (ht : 0 ≤ t ∧ t ≤ 100) (hq : Q (some (.int (if ru 9 ≤ t ∧ t + ru 10 < ru 1 then 1 else 0))) σ) (ex : x = jI t := by first | rfl | assumption | (simp only [jlit, jneg, jadd, jsub, jmul]; done) | (simp only [jlit, jneg, jadd, jsub, jmul]; congr 1 <;> omega) | (congr 1 <;> omega)) : MW l G d mX8_mayCall [.ref 15, .int x] σ Q := by
  have hr := hR.1
  unfold RB at hr
  subst ex
  refine vX8_mayCall [] 60 ?_
  refine ldI 14 9 (hR.2 9 (by omega)) ?_
  refine brlt t (ru 9) (fun h1 => ?_) (fun h1 => ?_)
  · rw [if_neg (by omega)] at hq
    exact And.intro (Or.inl rfl) hq
  · refine ldI 14 10 (hR.2 10 (by omega)) ?_
    refine ldI 14 1 (hR.2 1 (by omega)) ?_
    refine brle (ru 1) (t + ru 10) (fun h2 => ?_) (fun h2 => ?_)
    · rw [if_neg (by omega)] at hq
      exact And.intro (Or.inl rfl) hq
    · rw [if_pos (by omega)] at hq
      exact And.intro (Or.inr rfl) hq
/-- the last deed that may be -/
def zla (ru : Nat → Int) (t r : Int) : Int := if ru 9 ≤ t ∧ t + ru 10 < ru 1 then (if 0 < r then 2 else 1) else 0
theorem k_lastAllowed {x y : Int32} (t r : Int) (hR : RC σ ru) (ht : 0 ≤ t ∧ t ≤ 100) (hr2 : R31 r) (hq : Q (some (.int (jI (zla ru t r)))) σ) (ex : x = jI t := by first | rfl | assumption | (simp only [jlit, jneg, jadd, jsub, jmul]; done) | (simp only [jlit, jneg, jadd, jsub, jmul]; congr 1 <;> omega) | (congr 1 <;> omega)) (ey : y = jI r := by first | rfl | assumption | (simp only [jlit, jneg, jadd, jsub, jmul]; done) | (simp only [jlit, jneg, jadd, jsub, jmul]; congr 1 <;> omega) | (congr 1 <;> omega)) : MW l G (d + 1) mX8_lastAllowed [.ref 15, .int x, .int y] σ Q := by
  unfold zla at hq
  refine vX8_lastAllowed [] 60 ?_
  refine k_mayCall t hR ht ?_ ex
  refine brz inferInstance (fun h1 => ?_) (fun h1 => ?_)
  · rw [if_neg h1] at hq
    exact hq
  · rw [if_pos h1] at hq
    refine brle r 0 (fun h2 => ?_) (fun h2 => ?_) ey
    · rw [if_neg (by omega)] at hq
      exact hq
    · rw [if_pos (by omega)] at hq
      exact hq
/-- weigh: in ints as they are -/
theorem k_weigh {a : Nat} {x y z : Int32} (t n : Nat) {u v : Int32} (hR : RC σ ru) (ha : lenI a = 91) (hn : n + t + 2 < 91) (hu : σ.1 a (n + t + 2) = u) (hv : σ.1 a (n + t + 1) = v) (hq : Q (some (.int ((100 : Int32) * z + jI (ru 6) * u + ((100 : Int32) - jI (ru 6)) * v))) σ) (ex : x = jI t := by first | rfl | assumption | (simp only [jlit, jneg, jadd, jsub, jmul]; done) | (simp only [jlit, jneg, jadd, jsub, jmul]; congr 1 <;> omega) | (congr 1 <;> omega)) (ey : y = jI n := by first | rfl | assumption | (simp only [jlit, jneg, jadd, jsub, jmul]; done) | (simp only [jlit, jneg, jadd, jsub, jmul]; congr 1 <;> omega) | (congr 1 <;> omega)) : MW l G d mX8_weigh [.ref 15, .ref a, .int x, .int y, .int z] σ Q := by
  subst ex; subst ey
  refine vX8_weigh [] 60 ?_
  refine ldI 14 6 (hR.2 6 (by omega)) ?_
  refine ldI (lenI a) (n + t + 2) hu ?_
  exact ldI (lenI a) (n + t + 1) hv hq
theorem k_priceOf {x : Int32} (t : Nat) (hR : RC σ ru) (ham : ∀ j, 0 ≤ am j) (hl : σ.1 16 t = jI (zl ru am t)) (ht : (t : Int) ≤ ru 1) (hq : Q (some (.int (jI (zpr ru am t)))) σ) (ex : x = jI t := by first | rfl | assumption | (simp only [jlit, jneg, jadd, jsub, jmul]; done) | (simp only [jlit, jneg, jadd, jsub, jmul]; congr 1 <;> omega) | (congr 1 <;> omega)) : MW l G (d + 1) mX8_priceOf [.ref 15, .int x] σ Q := by
  have hr := hR.1
  have h3 := zl_in hr ham t
  unfold RB at hr
  have h8 := mul_le_c (a := (t : Int)) (b := ru 8) (A := 12) (B := 99) (by omega) (by omega) (by omega) (by omega)
  have hm := mul_le_c h3.1 h3.2 (b := max 0 (ru 7 - t * ru 8)) (B := 999) (by omega) (by omega)
  subst ex
  refine vX8_priceOf [] 60 ?_
  refine ldI 13 t hl ?_
  refine ldI 13 t hl ?_
  refine ldI 14 7 (hR.2 7 (by omega)) ?_
  refine ldI 14 8 (hR.2 8 (by omega)) ?_
  refine And.intro (by decide) ?_
  have e1 : (if (0 : Int32) < jI (ru 7) - jI (t : Int) * jI (ru 8) then jI (ru 7) - jI (t : Int) * jI (ru 8) else 0) = jI (max 0 (ru 7 - t * ru 8)) := by
    rw [jmul, jsub, jlit]
    by_cases h : 0 < ru 7 - t * ru 8
    · rw [if_pos ((jlt (by omega) (by omega)).mpr h), show max 0 (ru 7 - t * ru 8) = ru 7 - t * ru 8 by omega]
    · rw [if_neg (fun q => h ((jlt (by omega) (by omega)).mp q)), show max 0 (ru 7 - t * ru 8) = 0 by omega]
  have e : jI (zl ru am t) + jI (zl ru am t) * (if (0 : Int32) < jI (ru 7) - jI (t : Int) * jI (ru 8) then jI (ru 7) - jI (t : Int) * jI (ru 8) else 0) / 1000 = jI (zpr ru am t) := by
    unfold zpr
    rw [e1, jmul, jlit, jdiv hm.1 (by omega) (by omega) (by omega), jadd]
  rw [← e] at hq
  exact hq
end KL
