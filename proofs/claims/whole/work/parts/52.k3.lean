-- reckonDeeds
theorem zn_weigh {ru : Nat → Int} {ra : Nat → Nat → Int} {t h : Nat} {D u v : Int} (hr : RB ru) (hra : 0 ≤ ra t h ∧ ra t h ≤ 999) (hD : 0 ≤ D ∧ D ≤ 20000) (hu : 0 ≤ u ∧ u ≤ 1000000) (hv : 0 ≤ v ∧ v ≤ 1000000) : ((100 : Int32) * jI D + jI (ru 6) * jI u + ((100 : Int32) - jI (ru 6)) * jI v) * 10 / ((1000 : Int32) + jI (ra t h)) = jI (zn ru ra t h (D + u) (D + v)) := by
  have h1 := zn_in (t := t) (h := h) hr hra.1 (a := D + u) (b := D + v) (B := 1020000) (by omega) (by omega) (by omega) (by omega)
  have e : 100 * D + ru 6 * u + (100 - ru 6) * v = ru 6 * (D + u) + (100 - ru 6) * (D + v) := by
    simp only [Int.mul_add, Int.sub_mul]
    omega
  have hr6 := hr
  unfold RB at hr6
  simp only [jlit, jmul, jsub, jadd]
  rw [e, jdiv (by omega) (by omega) (by omega) (by omega)]
  rfl
/-- the new loans' rows by the mode -/
def frw (m : Int) (r : Nat) : Nat := (if m = 1 then 60 else 57) + (r - 1)
section KD
variable {l : Launch} {G : GT} {d : Nat} {σ : Mm} {Q : Po} {ru am : Nat → Int} {ra : Nat → Nat → Int} {o : Nat}
def tS (o : Nat) : List Nat := [o + 2, o + 5, o + 6, o + 7, o + 9, o + 10, o + 11]
theorem k_reckonDeeds {x y z u : Int32} (t h r : Nat) (cp m cu cd : Int) (N : Nat → Nat → Int) (ho : Tb o) (hR : RC σ ru) (hL : LC σ ru am) (hS : SC σ ru ra) (ht : (t : Int) < ru 1) (hh : h ≤ t) (hc : 0 ≤ cp ∧ cp ≤ 999) (hm : 0 ≤ m ∧ m ≤ 2) (hr6 : σ.1 o 6 = jI r) (hr2 : r ≤ 2)
    (hcu : σ.1 (o + 1) (nd (t + 1) (h + 1)) = jI cu ∧ 0 ≤ cu ∧ cu ≤ 1000000) (hcd : σ.1 (o + 1) (nd (t + 1) h) = jI cd ∧ 0 ≤ cd ∧ cd ≤ 1000000)
    (hcl : ∀ k h' : Nat, (k : Int) + 1 ≤ ru 10 → (t : Int) + 1 + k < ru 1 → h ≤ h' → h' ≤ h + 1 → σ.1 (o + 5 + k) (nd (t + 1) h') = jI (zb ru am ra cp (fun t _ => zpr ru am t) k (t + 1) h'))
    (hrn : 0 < r → ∀ k h' : Nat, (k : Int) + 1 ≤ ru 10 → (t : Int) + 1 + k < ru 1 → ru 9 + ru 10 ≤ (t : Int) + 1 + k → h ≤ h' → h' ≤ h + 1 → σ.1 (o + 9 + k) (nd (t + 1) h') = jI (zb ru am ra cp (fun t h => zpr ru am t - zl ru am t + ru 13 + N t h) k (t + 1) h'))
    (hfr : 0 < r → ru 9 + ru 10 ≤ t → σ.1 (frw m r) (nd t h) = jI (N t h))
    (hNb : 0 < r → ∀ t h : Nat, (t : Int) < ru 1 → h ≤ t → 0 ≤ N t h ∧ N t h ≤ 700000)
    (hq : ∀ τ : Mm, Fn (tS o) (nd t h) σ τ → τ.1 (o + 2) (nd t h) = jI (zn ru ra t h (zd ru am cp (t + 1) + cu) (zd ru am cp (t + 1) + cd)) → (∀ k : Nat, (k : Int) ≤ ru 10 → (t : Int) + k < ru 1 → τ.1 (o + 5 + k) (nd t h) = jI (zb ru am ra cp (fun t _ => zpr ru am t) k t h)) → (0 < r → ∀ k : Nat, (k : Int) ≤ ru 10 → (t : Int) + k < ru 1 → ru 9 + ru 10 ≤ (t : Int) + k → τ.1 (o + 9 + k) (nd t h) = jI (zb ru am ra cp (fun t h => zpr ru am t - zl ru am t + ru 13 + N t h) k t h)) → Q none τ)
    (ex : x = jI t := by first | rfl | assumption | (simp only [jlit, jneg, jadd, jsub, jmul]; done) | (simp only [jlit, jneg, jadd, jsub, jmul]; congr 1 <;> omega) | (congr 1 <;> omega)) (ey : y = jI (nd t h) := by first | rfl | assumption | (simp only [jlit, jneg, jadd, jsub, jmul]; done) | (simp only [jlit, jneg, jadd, jsub, jmul]; congr 1 <;> omega) | (congr 1 <;> omega)) (ez : z = jI (zd ru am cp (t + 1)) := by first | rfl | assumption | (simp only [jlit, jneg, jadd, jsub, jmul]; done) | (simp only [jlit, jneg, jadd, jsub, jmul]; congr 1 <;> omega) | (congr 1 <;> omega)) (eu : u = jI m := by first | rfl | assumption | (simp only [jlit, jneg, jadd, jsub, jmul]; done) | (simp only [jlit, jneg, jadd, jsub, jmul]; congr 1 <;> omega) | (congr 1 <;> omega)) : MW l G (d + 2) mX8_reckonDeeds [.ref 15, .ref o, .int x, .int y, .int z, .int u] σ Q := by
  have hr := hR.1
  have hr' := hr
  unfold RB at hr'
  obtain ⟨s1, s2, s3⟩ := hS t h ht hh
  have hz : ((ru 10).toNat : Int) = ru 10 := Int.toNat_of_nonneg (by omega)
  have hn := nd_lt2 (t := t) (h := h) (by omega) hh
  have hD := zd_in hr hL.1 hc.1 hc.2 (t + 1)
  have hra0 : ∀ t h : Nat, (t : Int) < ru 1 → h ≤ t → 0 ≤ ra t h := fun t h q1 q2 => (hS t h q1 q2).2.1
  have hnu := nd_up t h
  have hnd := nd_dn t h
  have hlen := Tb_len ho
  subst ex; subst ey; subst ez
  have hlt : nd t h + t + 2 < 91 := by rw [← hnu]; exact nd_lt (by omega) (by omega)
  -- a row's weighing, at a place behind
  have wgt : ∀ (a : Nat) (vu vd : Int) (τ : Mm), τ.1 a (nd (t + 1) (h + 1)) = jI vu → τ.1 a (nd (t + 1) h) = jI vd → 0 ≤ vu ∧ vu ≤ 1000000 → 0 ≤ vd ∧ vd ≤ 1000000 → ((100 : Int32) * jI (zd ru am cp (t + 1)) + jI (ru 6) * τ.1 a (nd t h + t + 2) + ((100 : Int32) - jI (ru 6)) * τ.1 a (nd t h + t + 1)) * 10 / ((1000 : Int32) + jI (ra t h)) = jI (zn ru ra t h (zd ru am cp (t + 1) + vu) (zd ru am cp (t + 1) + vd)) := by
    intro a vu vd τ e1 e2 b1 b2
    rw [← hnu, ← hnd, e1, e2]
    exact zn_weigh hr ⟨s2, s3⟩ (by omega) b1 b2
  have ne0 : ¬ ((1000 : Int32) + jI (ra t h)) = 0 := by
    intro q
    rw [jlit, jlit, jadd, jeq (by omega) (by omega)] at q
    omega
  -- the notice's years
  let I : Mm → Nat → Prop := fun τ k => Fn (tS o) (nd t h) σ τ ∧ τ.1 (o + 2) (nd t h) = jI (zn ru ra t h (zd ru am cp (t + 1) + cu) (zd ru am cp (t + 1) + cd)) ∧ (∀ j : Nat, j < k → (t : Int) + j < ru 1 → τ.1 (o + 5 + j) (nd t h) = jI (zb ru am ra cp (fun t _ => zpr ru am t) j t h)) ∧ (0 < r → ∀ j : Nat, j < k → (t : Int) + j < ru 1 → ru 9 + ru 10 ≤ (t : Int) + j → τ.1 (o + 9 + j) (nd t h) = jI (zb ru am ra cp (fun t h => zpr ru am t - zl ru am t + ru 13 + N t h) j t h))
  have done : ∀ (k : Nat) (τ : Mm), I τ k → (ru 10 < k ∨ ru 1 ≤ (t : Int) + k) → Q none τ := by
    intro k τ hI hk
    exact hq τ hI.1 hI.2.1 (fun j q1 q2 => hI.2.2.1 j (by omega) q2) (fun q0 j q1 q2 q3 => hI.2.2.2 q0 j (by omega) q2 q3)
  have loop : ∀ (m1 k : Nat) (τ : Mm) (v w8 : Int32), 1 ≤ k → k + m1 = 3 → I τ k → v = jI k → w8 = (1000 : Int32) + jI (ra t h) → Wp l G (d + 2) mX8_reckonDeeds 117 [(0, .ref 15), (1, .ref o), (2, .int (jI t)), (3, .int (jI (nd t h))), (4, .int (jI (zd ru am cp (t + 1)))), (6, .int w8), (7, .int v)] [] τ Q := by
    intro m1
    induction m1 with
    | zero =>
      intro k τ v w8 hk1 hk hI hv hw8
      have hR' : RC τ ru := hR.fr (funext fun j => hI.1.1 1 j (Or.inl (by rcases ho with rfl | rfl | rfl | rfl | rfl <;> decide)))
      refine wX8_reckonDeeds [] 60 ?_
      refine ldI 14 10 (hR'.2 10 (by omega)) ?_
      refine brlt (ru 10) k (fun _ => ?_) (fun q => by omega) rfl hv
      exact done k τ hI (Or.inl (by omega))
    | succ m1 ih =>
      intro k τ v w8 hk1 hk hI hv hw8
      have e1 : τ.1 1 = σ.1 1 := funext fun j => hI.1.1 1 j (Or.inl (by rcases ho with rfl | rfl | rfl | rfl | rfl <;> decide))
      have hR' : RC τ ru := hR.fr e1
      obtain ⟨j, rfl⟩ : ∃ j, k = j + 1 := ⟨k - 1, by omega⟩
      have hj : j < 2 := by omega
      obtain ⟨l1, l2, l3, l4⟩ := hlen
      obtain ⟨m1', m2', m3', m4'⟩ := l4 j (by omega)
      obtain ⟨n1', n2', n3', n4'⟩ := l4 (j + 1) (by omega)
      subst hv; subst hw8
      have old : ∀ a h', (h' = h ∨ h' = h + 1) → τ.1 a (nd (t + 1) h') = σ.1 a (nd (t + 1) h') := fun a h' q => hI.1.1 a _ (Or.inr (by rcases q with rfl | rfl <;> omega))
      by_cases hk10 : ((j + 1 : Nat) : Int) ≤ ru 10
      · by_cases hkY : (t : Int) + ((j + 1 : Nat) : Int) < ru 1
        · -- both rows are weighed
          have hX1 : ∀ h', h ≤ h' → h' ≤ h + 1 → 0 ≤ zb ru am ra cp (fun t _ => zpr ru am t) j (t + 1) h' ∧ zb ru am ra cp (fun t _ => zpr ru am t) j (t + 1) h' ≤ 1000000 := by
            intro h' q1 q2
            have := zb_in (X := fun t _ => zpr ru am t) (A := 20000) hr hL.1 hra0 hc j (t + 1) h' (by push_cast at hkY ⊢; omega) (by omega) (fun h2 _ _ => by have g1 := zl_in hr hL.1 (t + 1 + j); have g2 := zpr_in hr hL.1 (t + 1 + j); omega)
            omega
          have vC : ((100 : Int32) * jI (zd ru am cp (t + 1)) + jI (ru 6) * τ.1 (o + 5 + j) (nd t h + t + 2) + ((100 : Int32) - jI (ru 6)) * τ.1 (o + 5 + j) (nd t h + t + 1)) * 10 / ((1000 : Int32) + jI (ra t h)) = jI (zb ru am ra cp (fun t _ => zpr ru am t) (j + 1) t h) := by
            refine wgt (o + 5 + j) _ _ τ ?_ ?_ (hX1 (h + 1) (by omega) (by omega)) (hX1 h (by omega) (by omega))
            · rw [old _ _ (Or.inr rfl)]; exact hcl j (h + 1) (by push_cast at hk10; omega) (by push_cast at hkY; omega) (by omega) (by omega)
            · rw [old _ _ (Or.inl rfl)]; exact hcl j h (by push_cast at hk10; omega) (by push_cast at hkY; omega) (by omega) (by omega)
          have nxt : ∀ (vR : Int32), (0 < r → ru 9 + ru 10 ≤ (t : Int) + ((j + 1 : Nat) : Int) → vR = jI (zb ru am ra cp (fun t h => zpr ru am t - zl ru am t + ru 13 + N t h) (j + 1) t h)) → I (uI (uI τ (o + 5 + (j + 1)) (nd t h) (jI (zb ru am ra cp (fun t _ => zpr ru am t) (j + 1) t h))) (o + 9 + (j + 1)) (nd t h) vR) (j + 1 + 1) := by
            intro vR hvR
            have mem1 : o + 5 + (j + 1) ∈ tS o := by unfold tS; rcases (show j = 0 ∨ j = 1 by omega) with rfl | rfl <;> simp
            have mem2 : o + 9 + (j + 1) ∈ tS o := by unfold tS; rcases (show j = 0 ∨ j = 1 by omega) with rfl | rfl <;> simp
            refine ⟨(hI.1.uI mem1).uI mem2, ?_, fun i hi q2 => ?_, fun q0 i hi q2 q3 => ?_⟩
            · rw [uI_ne (Or.inl (by omega)), uI_ne (Or.inl (by omega))]; exact hI.2.1
            · by_cases e : i = j + 1
              · subst e
                rw [uI_ne (Or.inl (by omega)), uI_at]
              · rw [uI_ne (Or.inl (by omega)), uI_ne (Or.inl (by omega))]
                exact hI.2.2.1 i (by omega) q2
            · by_cases e : i = j + 1
              · subst e
                rw [uI_at]
                exact hvR q0 q3
              · rw [uI_ne (Or.inl (by omega)), uI_ne (Or.inl (by omega))]
                exact hI.2.2.2 q0 i (by omega) q2 q3
          have go := fun vR hvR => ih (j + 1 + 1) _ (jI ((j + 1 : Nat) : Int) + 1) ((1000 : Int32) + jI (ra t h)) (by omega) (by omega) (nxt vR hvR) (by first | rfl | assumption | (simp only [jlit, jneg, jadd, jsub, jmul]; done) | (simp only [jlit, jneg, jadd, jsub, jmul]; congr 1 <;> omega) | (congr 1 <;> omega)) rfl
          have vR : 0 < r → ru 9 + ru 10 ≤ (t : Int) + ((j + 1 : Nat) : Int) → ((100 : Int32) * jI (zd ru am cp (t + 1)) + jI (ru 6) * τ.1 (o + 9 + j) (nd t h + t + 2) + ((100 : Int32) - jI (ru 6)) * τ.1 (o + 9 + j) (nd t h + t + 1)) * 10 / ((1000 : Int32) + jI (ra t h)) = jI (zb ru am ra cp (fun t h => zpr ru am t - zl ru am t + ru 13 + N t h) (j + 1) t h) := by
            intro q0 q3
            have hX2 : ∀ h', h ≤ h' → h' ≤ h + 1 → 0 ≤ zb ru am ra cp (fun t h => zpr ru am t - zl ru am t + ru 13 + N t h) j (t + 1) h' ∧ zb ru am ra cp (fun t h => zpr ru am t - zl ru am t + ru 13 + N t h) j (t + 1) h' ≤ 1000000 := by
              intro h' q1 q2
              have := zb_in (X := fun t h => zpr ru am t - zl ru am t + ru 13 + N t h) (A := 720999) hr hL.1 hra0 hc j (t + 1) h' (by push_cast at hkY ⊢; omega) (by omega) (fun h2 z1 z2 => by
                have g1 := zl_in hr hL.1 (t + 1 + j)
                have g2 := zpr_in hr hL.1 (t + 1 + j)
                have g3 := hNb q0 (t + 1 + j) h2 (by push_cast at hkY ⊢; omega) (by omega)
                omega)
              omega
            refine wgt (o + 9 + j) _ _ τ ?_ ?_ (hX2 (h + 1) (by omega) (by omega)) (hX2 h (by omega) (by omega))
            · rw [old _ _ (Or.inr rfl)]; exact hrn q0 j (h + 1) (by push_cast at hk10; omega) (by push_cast at hkY; omega) (by push_cast at q3; omega) (by omega) (by omega)
            · rw [old _ _ (Or.inl rfl)]; exact hrn q0 j h (by push_cast at hk10; omega) (by push_cast at hkY; omega) (by push_cast at q3; omega) (by omega) (by omega)
          have go1 := go _ vR
          rw [← vC] at go1
          have hRu : RC (uI τ (o + 5 + (j + 1)) (nd t h) (((100 : Int32) * jI (zd ru am cp (t + 1)) + jI (ru 6) * τ.1 (o + 5 + j) (nd t h + t + 2) + ((100 : Int32) - jI (ru 6)) * τ.1 (o + 5 + j) (nd t h + t + 1)) * 10 / ((1000 : Int32) + jI (ra t h)))) ru := hR'.fr (uI_n (by omega))
          have hru2 : ∀ i, (uI τ (o + 5 + (j + 1)) (nd t h) (((100 : Int32) * jI (zd ru am cp (t + 1)) + jI (ru 6) * τ.1 (o + 5 + j) (nd t h + t + 2) + ((100 : Int32) - jI (ru 6)) * τ.1 (o + 5 + j) (nd t h + t + 1)) * 10 / ((1000 : Int32) + jI (ra t h)))).1 (o + 9 + j) i = τ.1 (o + 9 + j) i := fun i => by rw [uI_ne (Or.inl (by omega))]
          rcases ho with rfl | rfl | rfl | rfl | rfl <;>
          · refine wX8_reckonDeeds [(117, [0, 1, 2, 3, 4, 6, 7])] 120 ?_
            refine ldI 14 10 (hR'.2 10 (by omega)) ?_
            refine brlt (ru 10) ((j + 1 : Nat) : Int) (fun q => by omega) (fun _ => ?_)
            refine ldI 14 1 (hR'.2 1 (by omega)) ?_
            refine brle (ru 1) ((t : Int) + ((j + 1 : Nat) : Int)) (fun q => by omega) (fun _ => ?_)
            refine ldN 3 (j + 1) n3' ?_
            refine ldN 3 j m3' ?_
            refine k_weigh t (nd t h) hR' m1' hlt rfl rfl ?_
            refine And.intro ne0 ?_
            refine stI _ (nd t h) ?_ (by rw [n1']; omega) rfl (by rw [n1']; decide)
            refine ldN 3 (j + 1) n4' ?_
            refine ldN 3 j m4' ?_
            refine k_weigh t (nd t h) hRu m2' hlt (hru2 _) (hru2 _) ?_
            refine And.intro ne0 ?_
            exact stI _ (nd t h) go1 (by rw [n2']; omega) rfl (by rw [n2']; decide)
        · refine wX8_reckonDeeds [] 60 ?_
          refine ldI 14 10 (hR'.2 10 (by omega)) ?_
          refine brlt (ru 10) ((j + 1 : Nat) : Int) (fun q => by omega) (fun _ => ?_)
          refine ldI 14 1 (hR'.2 1 (by omega)) ?_
          refine brle (ru 1) ((t : Int) + ((j + 1 : Nat) : Int)) (fun _ => ?_) (fun q => by omega)
          exact done (j + 1) τ hI (Or.inr (by omega))
      · refine wX8_reckonDeeds [] 60 ?_
        refine ldI 14 10 (hR'.2 10 (by omega)) ?_
        refine brlt (ru 10) ((j + 1 : Nat) : Int) (fun _ => ?_) (fun q => by omega)
        exact done (j + 1) τ hI (Or.inl (by omega))
  have v0 := wgt (o + 1) cu cd σ hcu.1 hcd.1 hcu.2 hcd.2
  have memA : ∀ j, j ∈ tS o → j ≠ 1 ∧ j ≠ 16 ∧ j ≠ 17 ∧ j ≠ 18 ∧ j ≠ 55 ∧ j ≠ 57 ∧ j ≠ 58 ∧ j ≠ 60 ∧ j ≠ 61 ∧ j ≠ o := by
    rcases ho with rfl | rfl | rfl | rfl | rfl <;> decide
  have m2 : o + 2 ∈ tS o := by unfold tS; simp
  have m5 : o + 5 ∈ tS o := by unfold tS; simp
  have m9 : o + 9 ∈ tS o := by unfold tS; simp
  -- behind held and calling 0
  have hIb : ∀ r0 : Nat, r0 = 0 → r = r0 → I (uI (uI σ (o + 2) (nd t h) (jI (zn ru ra t h (zd ru am cp (t + 1) + cu) (zd ru am cp (t + 1) + cd)))) (o + 5) (nd t h) (jI (zpr ru am t))) 1 := by
    intro r0 h0 hr0
    refine ⟨((Fn.rf).uI m2).uI m5, ?_, fun j hj q => ?_, fun q0 => by omega⟩
    · rw [uI_ne (Or.inl (by omega)), uI_at]
    · obtain rfl : j = 0 := by omega
      exact uI_at _ _ _ _
  have hIc : ∀ v9 : Int32, (0 < r → ru 9 + ru 10 ≤ (t : Int) → v9 = jI (zpr ru am t - zl ru am t + ru 13 + N t h)) → I (uI (uI (uI σ (o + 2) (nd t h) (jI (zn ru ra t h (zd ru am cp (t + 1) + cu) (zd ru am cp (t + 1) + cd)))) (o + 5) (nd t h) (jI (zpr ru am t))) (o + 9) (nd t h) v9) 1 := by
    intro v9 hv9
    refine ⟨(((Fn.rf).uI m2).uI m5).uI m9, ?_, fun j hj q => ?_, fun q0 j hj q2 q3 => ?_⟩
    · rw [uI_ne (Or.inl (by omega)), uI_ne (Or.inl (by omega)), uI_at]
    · obtain rfl : j = 0 := by omega
      rw [uI_ne (Or.inl (by omega))]
      exact uI_at _ _ _ _
    · obtain rfl : j = 0 := by omega
      rw [show o + 9 + 0 = o + 9 from rfl, uI_at]
      exact hv9 q0 (by simpa using q3)
  have go0 := fun h0 => loop 2 1 _ 1 ((1000 : Int32) + jI (ra t h)) (Nat.le_refl _) rfl (hIb 0 rfl h0) rfl rfl
  have go9 := fun v9 hv9 => loop 2 1 _ 1 ((1000 : Int32) + jI (ra t h)) (Nat.le_refl _) rfl (hIc v9 hv9) rfl rfl
  rw [← v0] at go0 go9
  have hRb : ∀ v v', RC (uI (uI σ (o + 2) (nd t h) v) (o + 5) (nd t h) v') ru := fun v v' => hR.fr (by rw [uI_n (Ne.symm (memA _ m5).1), uI_n (Ne.symm (memA _ m2).1)])
  have hLb : ∀ v v', LC (uI (uI σ (o + 2) (nd t h) v) (o + 5) (nd t h) v') ru am := fun v v' => hL.fr (by rw [uI_n (Ne.symm (memA _ m5).2.1), uI_n (Ne.symm (memA _ m2).2.1)]) (by rw [uI_n (Ne.symm (memA _ m5).2.2.1), uI_n (Ne.symm (memA _ m2).2.2.1)]) (by rw [uI_n (Ne.symm (memA _ m5).2.2.2.1), uI_n (Ne.symm (memA _ m2).2.2.2.1)])
  have hpr : ∀ v, (uI σ (o + 2) (nd t h) v).1 18 t = jI (zpr ru am t) := fun v => by rw [uI_n (Ne.symm (memA _ m2).2.2.2.1)]; exact (hL.2 t (by omega)).2.2
  have h6 : ∀ v v', (uI (uI σ (o + 2) (nd t h) v) (o + 5) (nd t h) v').1 o 6 = jI r := fun v v' => by rw [uI_n (Ne.symm (memA _ m5).2.2.2.2.2.2.2.2.2), uI_n (Ne.symm (memA _ m2).2.2.2.2.2.2.2.2.2)]; exact hr6
  have hf : ∀ v v', (uI (uI σ (o + 2) (nd t h) v) (o + 5) (nd t h) v').1 (frw m r) (nd t h) = σ.1 (frw m r) (nd t h) := by
    intro v v'
    have : frw m r ≠ o + 5 ∧ frw m r ≠ o + 2 := by
      unfold frw
      rcases ho with rfl | rfl | rfl | rfl | rfl <;> split <;> omega
    rw [uI_n this.1, uI_n this.2]
  have hlf : 0 < r → lenI (frw m r) = 78 ∧ refA (if m = 1 then 59 else 56) (r - 1) = frw m r := by
    intro q
    unfold frw
    rcases (show r = 1 ∨ r = 2 by omega) with rfl | rfl <;> split <;> decide
  have hgl : (if m = 1 then (59 : Nat) else 56) = 59 ∨ (if m = 1 then (59 : Nat) else 56) = 56 := by split <;> simp
  rcases ho with rfl | rfl | rfl | rfl | rfl <;>
  · refine vX8_reckonDeeds [(117, [0, 1, 2, 3, 4, 6, 7])] 160 ?_
    refine ldI 115 (25 + nd t h) s1 ?_
    refine brlt 0 (1000 + ra t h) (fun _ => ?_) (fun q => by omega)
    refine k_weigh t (nd t h) hR (by decide) hlt rfl rfl ?_
    refine And.intro ne0 ?_
    refine stI 91 (nd t h) ?_
    refine ldN 3 0 rfl ?_
    refine ldI 13 t (hpr _) ?_
    refine stI 91 (nd t h) ?_
    refine brle r 0 (fun q => ?_) (fun q => ?_) (h6 _ _)
    · exact go0 (by omega)
    · have hq0 : 0 < r := by omega
      obtain ⟨lf1, lf2⟩ := hlf hq0
      have hmin : ∀ x : Int32, x = jI r → (if (2 : Int32) < x then (2 : Int32) else x) - 1 = jI ((r - 1 : Nat) : Int) := by
        intro x hx
        subst hx
        rw [if_neg (fun z => by rw [jlit, jlt (by omega) (by omega)] at z; omega)]
        first | rfl | assumption | (simp only [jlit, jneg, jadd, jsub, jmul]; done) | (simp only [jlit, jneg, jadd, jsub, jmul]; congr 1 <;> omega) | (congr 1 <;> omega)
      refine breq m 1 (fun hm1 => ?_) (fun hm1 => ?_) eu
      · rw [if_pos hm1] at lf2
        refine ldN 3 0 rfl ?_
        refine k_renewalAt t (hRb _ _) (hLb _ _) (by omega) ?_
        refine ldN 2 (r - 1) lf2 ?_ (by omega) (hmin _ (h6 _ _))
        refine ldI _ (nd t h) (hf _ _) ?_ (by rw [lf1]; exact hn) rfl (by rw [lf1]; decide)
        refine stI 91 (nd t h) ?_
        exact go9 _ (fun z1 z2 => by rw [hfr z1 z2, jadd])
      · rw [if_neg hm1] at lf2
        refine ldN 3 0 rfl ?_
        refine k_renewalAt t (hRb _ _) (hLb _ _) (by omega) ?_
        refine ldN 2 (r - 1) lf2 ?_ (by omega) (hmin _ (h6 _ _))
        refine ldI _ (nd t h) (hf _ _) ?_ (by rw [lf1]; exact hn) rfl (by rw [lf1]; decide)
        refine stI 91 (nd t h) ?_
        exact go9 _ (fun z1 z2 => by rw [hfr z1 z2, jadd])
end KD
