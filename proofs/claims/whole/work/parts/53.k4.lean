-- build: a table from a node on
/-- at the end nothing costs -/
def Ze (σ : Mm) (o : Nat) (ru : Nat → Int) : Prop := ∀ h : Nat, (h : Int) ≤ ru 1 → σ.1 (o + 1) (nd (ru 1).toNat h) = jI 0
section KB
variable {l : Launch} {G : GT} {d : Nat} {σ : Mm} {Q : Po} {ru am : Nat → Int} {ra : Nat → Nat → Int} {o : Nat}
theorem k_deedOf {a : Nat} {x y : Int32} (t h : Nat) {v : Int32} (ha : lenI a = 115) (ht : t < 12) (hv : (σ.1 a (103 + t) >>> ((2 * jI h) &&& 31)) &&& 3 = v) (hq : Q (some (.int v)) σ) (ex : x = jI t := by first | rfl | assumption | (simp only [jlit, jneg, jadd, jsub, jmul]; done) | (simp only [jlit, jneg, jadd, jsub, jmul]; congr 1 <;> omega) | (congr 1 <;> omega)) (ey : y = jI h := by first | rfl | assumption | (simp only [jlit, jneg, jadd, jsub, jmul]; done) | (simp only [jlit, jneg, jadd, jsub, jmul]; congr 1 <;> omega) | (congr 1 <;> omega)) : MW l G d mX0_deedOf [.ref a, .int x, .int y] σ Q := by
  subst ex; subst ey
  refine vX0_deedOf [] 30 ?_
  refine ldI (lenI a) (103 + t) rfl ?_
  rw [← hv] at hq
  exact hq
/-- the deeds in the cells' form -/
def DC (σ : Mm) (a : Nat) (ru : Nat → Int) (de : Nat → Nat → Int) : Prop := ∀ t h : Nat, (t : Int) < ru 1 → h ≤ t → (σ.1 a (103 + t) >>> ((2 * jI h) &&& 31)) &&& 3 = jI (de t h) ∧ 0 ≤ de t h ∧ de t h ≤ 2
/-- a node of a table is reckoned -/
def Nt (τ : Mm) (o : Nat) (ru am : Nat → Int) (ra : Nat → Nat → Int) (pol : Option (Nat → Nat → Int)) (r : Nat) (cp : Int) (N : Nat → Nat → Int) (t h : Nat) : Prop :=
  τ.1 (o + 2) (nd t h) = jI (zcd ru am ra cp (zC ru am ra pol r cp N) N 0 t h) ∧
  (∀ k : Nat, (k : Int) ≤ ru 10 → (t : Int) + k < ru 1 → τ.1 (o + 5 + k) (nd t h) = jI (zb ru am ra cp (fun t _ => zpr ru am t) k t h)) ∧
  (0 < r → ∀ k : Nat, (k : Int) ≤ ru 10 → (t : Int) + k < ru 1 → ru 9 + ru 10 ≤ (t : Int) + k → τ.1 (o + 9 + k) (nd t h) = jI (zb ru am ra cp (fun t h => zpr ru am t - zl ru am t + ru 13 + N t h) k t h)) ∧
  τ.1 (o + 3) (nd t h) = jI (zdd ru am ra pol cp (zC ru am ra pol r cp N) N r t h) ∧
  τ.1 (o + 1) (nd t h) = jI (zC ru am ra pol r cp N t h)
theorem Nt.fr {τ τ' : Mm} {pol : Option (Nat → Nat → Int)} {r : Nat} {cp : Int} {N : Nat → Nat → Int} {t h : Nat} (hr : RB ru) (hN : Nt τ o ru am ra pol r cp N t h) (e : ∀ a, τ'.1 a (nd t h) = τ.1 a (nd t h)) : Nt τ' o ru am ra pol r cp N t h := by
  obtain ⟨h1, h2, h3, h4, h5⟩ := hN
  exact ⟨by rw [e]; exact h1, fun k q1 q2 => by rw [e]; exact h2 k q1 q2, fun q0 k q1 q2 q3 => by rw [e]; exact h3 q0 k q1 q2 q3, by rw [e]; exact h4, by rw [e]; exact h5⟩
def bS (o : Nat) : List Nat := [o + 1, o + 2, o + 3, o + 5, o + 6, o + 7, o + 9, o + 10, o + 11]
theorem bS_ne {o : Nat} (ho : Tb o) : ∀ j, j ∈ bS o → j ≠ 1 ∧ j ≠ 16 ∧ j ≠ 17 ∧ j ≠ 18 ∧ j ≠ 55 ∧ j ≠ 57 ∧ j ≠ 58 ∧ j ≠ 60 ∧ j ≠ 61 ∧ j ≠ o := by
  rcases ho with rfl | rfl | rfl | rfl | rfl <;> decide
/-- mode and policy -/
def Md (m : Int) (pol : Option (Nat → Nat → Int)) : Prop := (m = 0 ∧ pol = none) ∨ (m = 1 ∧ pol.isSome = true) ∨ (m = 2 ∧ pol = some (fun _ _ => 0))
theorem k_buildZ {y z u : Int32} (pol : Option (Nat → Nat → Int)) (N : Nat → Nat → Int) (r y0 h0 : Nat) (cp m : Int) (ho : Tb o) (hR : RC σ ru) (hL : LC σ ru am) (hS : SC σ ru ra) (hy : (y0 : Int) < ru 1) (hh : h0 ≤ y0) (hc : 0 ≤ cp ∧ cp ≤ 999) (hm : Md m pol) (hr5 : σ.1 o 5 = jI cp) (hr6 : σ.1 o 6 = jI r) (hr2 : r ≤ 2) (hD : m = 1 → ∀ de, pol = some de → DC σ 55 ru de)
    (hfr : 0 < r → m ≠ 2 → ∀ t h : Nat, ru 9 + ru 10 ≤ t → (t : Int) < ru 1 → h ≤ t → σ.1 (frw m r) (nd t h) = jI (N t h)) (hm2 : m = 2 → r = 0)
    (hNb : 0 < r → ∀ t h : Nat, (t : Int) < ru 1 → h ≤ t → 0 ≤ N t h ∧ N t h ≤ 690000)
    (hq : ∀ τ : Mm, (∀ a, a ∉ bS o → τ.1 a = σ.1 a) → τ.2 = σ.2 → (∀ t h : Nat, y0 ≤ t → (t : Int) < ru 1 → h0 ≤ h → h ≤ h0 + (t - y0) → Nt τ o ru am ra pol r cp N t h) → (∀ h : Nat, h0 ≤ h → h ≤ h0 + ((ru 1).toNat - y0) → τ.1 (o + 1) (nd (ru 1).toNat h) = jI 0) → Q none τ)
    (ey : y = jI y0 := by first | rfl | assumption | (simp only [jlit, jneg, jadd, jsub, jmul]; done) | (simp only [jlit, jneg, jadd, jsub, jmul]; congr 1 <;> omega) | (congr 1 <;> omega)) (ez : z = jI h0 := by first | rfl | assumption | (simp only [jlit, jneg, jadd, jsub, jmul]; done) | (simp only [jlit, jneg, jadd, jsub, jmul]; congr 1 <;> omega) | (congr 1 <;> omega)) (eu : u = jI m := by first | rfl | assumption | (simp only [jlit, jneg, jadd, jsub, jmul]; done) | (simp only [jlit, jneg, jadd, jsub, jmul]; congr 1 <;> omega) | (congr 1 <;> omega)) : MW l G (d + 4) mX8_build [.ref 15, .ref o, .int y, .int z, .int u] σ Q := by
  have hr := hR.1
  have hr' := hr
  unfold RB at hr'
  have hz : ((ru 10).toNat : Int) = ru 10 := Int.toNat_of_nonneg (by omega)
  have hY : ((ru 1).toNat : Int) = ru 1 := Int.toNat_of_nonneg (by omega)
  have hra0 : ∀ t h : Nat, (t : Int) < ru 1 → h ≤ t → 0 ≤ ra t h := fun t h q1 q2 => (hS t h q1 q2).2.1
  have hmr : 0 ≤ m ∧ m ≤ 2 := by rcases hm with q | q | q <;> omega
  have hne := bS_ne ho
  have hpol : ∀ de, pol = some de → ∀ t h : Nat, (t : Int) < ru 1 → h ≤ t → 0 ≤ de t h ∧ de t h ≤ 2 := by
    intro de e t h q1 q2
    rcases hm with ⟨q, q'⟩ | ⟨q, q'⟩ | ⟨q, q'⟩
    · rw [e] at q'; cases q'
    · exact (hD q de e t h q1 q2).2
    · rw [e] at q'; cases q'; exact ⟨Int.le_refl 0, by show (0 : Int) ≤ 2; decide⟩
  have hCb : ∀ t h : Nat, (t : Int) ≤ ru 1 → h ≤ t → 0 ≤ zC ru am ra pol r cp N t h ∧ zC ru am ra pol r cp N t h ≤ 1000000 := by
    intro t h q1 q2
    have := zC_in (pol := pol) (r := r) (cp := cp) (N := N) (n := 690000) hr hL.1 hra0 hpol hc (fun q t h q1 q2 => hNb (by omega) t h q1 q2) (by omega) ((ru 1).toNat - t) t h (by omega) q2
    omega
  -- the invariant
  let I : Mm → Nat → Nat → Prop := fun τ n k => (∀ a, a ∉ bS o → τ.1 a = σ.1 a) ∧ τ.2 = σ.2 ∧ (∀ h : Nat, h0 ≤ h → h ≤ h0 + ((ru 1).toNat - y0) → τ.1 (o + 1) (nd (ru 1).toNat h) = jI 0) ∧ (∀ t h : Nat, y0 ≤ t → (t : Int) < ru 1 → h0 ≤ h → h ≤ h0 + (t - y0) → (n ≤ t ∨ t + 1 = n ∧ h < h0 + k) → Nt τ o ru am ra pol r cp N t h)
  have base : ∀ τ, (∀ a, a ∉ bS o → τ.1 a = σ.1 a) → RC τ ru ∧ LC τ ru am ∧ SC τ ru ra ∧ τ.1 o = σ.1 o ∧ τ.1 55 = σ.1 55 ∧ (0 < r → τ.1 (frw m r) = σ.1 (frw m r)) := by
    intro τ e
    have ee : ∀ b, (∀ j, j ∈ bS o → j ≠ b) → τ.1 b = σ.1 b := fun b hb => e b (fun q => hb b q rfl)
    refine ⟨hR.fr (ee 1 (fun j q => (hne j q).1)), hL.fr (ee 16 (fun j q => (hne j q).2.1)) (ee 17 (fun j q => (hne j q).2.2.1)) (ee 18 (fun j q => (hne j q).2.2.2.1)), hS.fr (ee 55 (fun j q => (hne j q).2.2.2.2.1)), ee o (fun j q => (hne j q).2.2.2.2.2.2.2.2.2), ee 55 (fun j q => (hne j q).2.2.2.2.1), fun q0 => ee _ (fun j q => ?_)⟩
    obtain ⟨-, -, -, -, -, n1, n2, n3, n4, -⟩ := hne j q
    unfold frw
    split <;> omega
  -- one node
  have node : ∀ (n k : Nat) (τ : Mm) (w7 w8 w9 w10 w11 : Int32), y0 ≤ n → (n : Int) < ru 1 → k ≤ n - y0 → I τ (n + 1) k → w7 = jI n → w8 = jI (zd ru am cp (n + 1)) → w9 = jI (if m = 2 then 0 else zla ru n r) → w10 = jI (nd n h0) → w11 = jI k → (∀ τ' v, I τ' (n + 1) (k + 1) → v = jI ((k + 1 : Nat) : Int) → Wp l G (d + 4) mX8_build 94 [(0, .ref 15), (1, .ref o), (2, .int y), (3, .int z), (4, .int u), (5, .int (jI (ru 1))), (7, .int w7), (8, .int w8), (9, .int w9), (10, .int w10), (11, .int v)] [] τ' Q) → Wp l G (d + 4) mX8_build 94 [(0, .ref 15), (1, .ref o), (2, .int y), (3, .int z), (4, .int u), (5, .int (jI (ru 1))), (7, .int w7), (8, .int w8), (9, .int w9), (10, .int w10), (11, .int w11)] [] τ Q := by
    intro n k τ w7 w8 w9 w10 w11 hn1 hn2 hk hI e7 e8 e9 e10 e11 hgo
    obtain ⟨i1, i2, i3, i4⟩ := hI
    obtain ⟨hR1, hL1, hS1, ho1, h55, hfr1⟩ := base τ i1
    have hn12 := nd_lt2 (t := n) (h := h0 + k) (by omega) (by omega)
    have e12 : jI (nd n h0 : Int) + jI (k : Int) = jI (nd n (h0 + k)) := by rw [jadd]; congr 1; unfold nd; push_cast; omega
    have cost1 : ∀ h', h0 ≤ h' → h' ≤ h0 + (n + 1 - y0) → τ.1 (o + 1) (nd (n + 1) h') = jI (zC ru am ra pol r cp N (n + 1) h') ∧ 0 ≤ zC ru am ra pol r cp N (n + 1) h' ∧ zC ru am ra pol r cp N (n + 1) h' ≤ 1000000 := by
      intro h' q1 q2
      refine ⟨?_, hCb (n + 1) h' (by push_cast; omega) (by omega)⟩
      by_cases hY1 : ((n + 1 : Nat) : Int) < ru 1
      · exact (i4 (n + 1) h' (by omega) hY1 q1 q2 (Or.inl (Nat.le_refl _))).2.2.2.2
      · have e : n + 1 = (ru 1).toNat := by omega
        rw [zC_end (by omega), e]
        exact i3 h' q1 (by omega)
    have chl : ∀ h', h0 + k ≤ h' → h' ≤ h0 + k + 1 → ((n : Int) + 1 < ru 1) → Nt τ o ru am ra pol r cp N (n + 1) h' := fun h' q1 q2 q3 => i4 (n + 1) h' (by omega) (by push_cast; exact q3) (by omega) (by omega) (Or.inl (Nat.le_refl _))
    -- the deed that is laid
    have hm' := zdd_in (ru := ru) (am := am) (ra := ra) (pol := pol) (cp := cp) (B := zC ru am ra pol r cp N) (N := N) (r := r) (t := n) (h := h0 + k) (fun de q => hpol de q n _ hn2 (by omega))
    have hstep := zC_step (am := am) (ra := ra) (pol := pol) (r := r) (cp := cp) (N := N) (h := h0 + k) hn2
    have fin : ∀ (τ1 : Mm), Fn (tS o) (nd n (h0 + k)) τ τ1 → τ1.1 (o + 2) (nd n (h0 + k)) = jI (zcd ru am ra cp (zC ru am ra pol r cp N) N 0 n (h0 + k)) → (∀ k1 : Nat, (k1 : Int) ≤ ru 10 → (n : Int) + k1 < ru 1 → τ1.1 (o + 5 + k1) (nd n (h0 + k)) = jI (zb ru am ra cp (fun t _ => zpr ru am t) k1 n (h0 + k))) → (0 < r → ∀ k1 : Nat, (k1 : Int) ≤ ru 10 → (n : Int) + k1 < ru 1 → ru 9 + ru 10 ≤ (n : Int) + k1 → τ1.1 (o + 9 + k1) (nd n (h0 + k)) = jI (zb ru am ra cp (fun t h => zpr ru am t - zl ru am t + ru 13 + N t h) k1 n (h0 + k))) → ∀ (w12 w13 : Int32), w12 = jI (nd n (h0 + k)) → ∀ st, st = [Value.int (jI (zdd ru am ra pol cp (zC ru am ra pol r cp N) N r n (h0 + k))), .int w12, .ref (o + 3)] → Wp l G (d + 4) mX8_build 175 [(0, .ref 15), (1, .ref o), (2, .int y), (3, .int z), (4, .int u), (5, .int (jI (ru 1))), (7, .int w7), (8, .int w8), (9, .int w9), (10, .int w10), (11, .int w11), (12, .int w12), (13, .int w13)] st τ1 Q := by
      intro τ1 hF g1 g2 g3 w12 w13 e12' st hst
      subst hst; subst e12'
      generalize hdd : zdd ru am ra pol cp (zC ru am ra pol r cp N) N r n (h0 + k) = dd at hm' hstep
      have hRx : ∀ v, RC (uI τ1 (o + 3) (nd n (h0 + k)) v) ru := fun v => hR1.fr (by
        rw [uI_n (by rcases ho with rfl | rfl | rfl | rfl | rfl <;> decide)]
        exact funext fun j => hF.1 1 j (Or.inl (by rcases ho with rfl | rfl | rfl | rfl | rfl <;> decide)))
      have hcv : ∀ v, (if dd = 0 then (uI τ1 (o + 3) (nd n (h0 + k)) v).1 (o + 2) (nd n (h0 + k)) else if dd = 1 then (uI τ1 (o + 3) (nd n (h0 + k)) v).1 (o + 5 + (ru 10).toNat) (nd n (h0 + k)) else (uI τ1 (o + 3) (nd n (h0 + k)) v).1 (o + 9 + (ru 10).toNat) (nd n (h0 + k))) = jI (zC ru am ra pol r cp N n (h0 + k)) := by
        intro v
        rw [hstep, uI_ne (Or.inl (by omega)), uI_ne (Or.inl (by omega)), uI_ne (Or.inl (by omega))]
        by_cases d0 : dd = 0
        · rw [if_pos d0, g1, d0]
        · rw [if_neg d0]
          by_cases d1 : dd = 1
          · rw [if_pos d1, g2 (ru 10).toNat (by omega) (by omega), d1]; rfl
          · rw [if_neg d1, g3 (by omega) (ru 10).toNat (by omega) (by omega) (by omega)]
            congr 1
            unfold zcd
            rw [if_neg d0, if_neg d1]
      have nI : I (uI (uI τ1 (o + 3) (nd n (h0 + k)) (jI dd)) (o + 1) (nd n (h0 + k)) (jI (zC ru am ra pol r cp N n (h0 + k)))) (n + 1) (k + 1) := by
        have off : ∀ a j, (a ∉ bS o ∨ j ≠ nd n (h0 + k)) → (uI (uI τ1 (o + 3) (nd n (h0 + k)) (jI dd)) (o + 1) (nd n (h0 + k)) (jI (zC ru am ra pol r cp N n (h0 + k)))).1 a j = τ.1 a j := by
          intro a j q
          rw [uI_ne (by rcases q with q | q; left; intro e; apply q; rw [e]; unfold bS; simp; right; exact q), uI_ne (by rcases q with q | q; left; intro e; apply q; rw [e]; unfold bS; simp; right; exact q)]
          exact hF.1 a j (by rcases q with q | q; left; intro e; apply q; unfold tS at e; unfold bS; simp only [List.mem_cons, List.not_mem_nil, or_false] at e ⊢; omega; right; exact q)
        refine ⟨fun a ha => ?_, ?_, fun h q1 q2 => ?_, fun t h q1 q2 q3 q4 q5 => ?_⟩
        · rw [← i1 a ha]
          exact funext fun j => off a j (Or.inl ha)
        · exact hF.2.trans i2
        · rw [off _ _ (Or.inr (fun e => by have := nd_inj (by omega) (by omega) e; omega))]
          exact i3 h q1 q2
        · by_cases e : t = n ∧ h = h0 + k
          · obtain ⟨rfl, rfl⟩ := e
            refine ⟨?_, fun k1 z1 z2 => ?_, fun z0 k1 z1 z2 z3 => ?_, ?_, ?_⟩
            · rw [uI_ne (Or.inl (by omega)), uI_ne (Or.inl (by omega))]; exact g1
            · rw [uI_ne (Or.inl (by omega)), uI_ne (Or.inl (by omega))]; exact g2 k1 z1 z2
            · rw [uI_ne (Or.inl (by omega)), uI_ne (Or.inl (by omega))]; exact g3 z0 k1 z1 z2 z3
            · rw [uI_ne (Or.inl (by omega)), uI_at, hdd]
            · rw [uI_at]
          · exact Nt.fr hr (i4 t h q1 q2 q3 q4 (by omega)) (fun a => off a _ (Or.inr (fun e' => e (by have := nd_inj (by omega) (by omega) e'; omega))))
      have go := hgo _ (w11 + 1) nI (by rw [e11]; first | rfl | assumption | (simp only [jlit, jneg, jadd, jsub, jmul]; done) | (simp only [jlit, jneg, jadd, jsub, jmul]; congr 1 <;> omega) | (congr 1 <;> omega))
      rcases ho with rfl | rfl | rfl | rfl | rfl <;>
      · refine wX8_build [(94, [0, 1, 2, 3, 4, 5, 7, 8, 9, 10, 11])] 80 ?_
        refine stI 91 (nd n (h0 + k)) ?_
        refine ldI 91 (nd n (h0 + k)) (uI_at _ _ _ _) ?_
        refine k_costOf (nd n (h0 + k)) dd _ (by unfold Tb; decide) (hRx _) (by omega) (by omega) (hcv _) ?_
        exact stI 91 (nd n (h0 + k)) go
    have hNb2 : 0 < r → ∀ t h : Nat, (t : Int) < ru 1 → h ≤ t → 0 ≤ N t h ∧ N t h ≤ 700000 := fun q t h q1 q2 => ⟨(hNb q t h q1 q2).1, by have := (hNb q t h q1 q2).2; omega⟩
    have cu := cost1 (h0 + k + 1) (by omega) (by omega)
    have cd := cost1 (h0 + k) (by omega) (by omega)
    have blt : ∀ dd : Int, dd = 0 ∨ (ru 9 ≤ n ∧ (n : Int) + ru 10 < ru 1) ∧ (dd = 1 ∨ dd = 2 ∧ 0 < (r : Int)) → R31 (zcd ru am ra cp (zC ru am ra pol r cp N) N dd n (h0 + k)) := by
      intro dd q
      have := zcd_lt (B := zC ru am ra pol r cp N) (N := N) (r := r) (b := 1000000) (n := 690000) hr hL.1 hra0 hc hn2 (h := h0 + k) (by omega) cu.2 cd.2 (fun q t h q1 q2 => hNb (by omega) t h q1 q2) (by omega) (by omega) q
      omega
    have al : 0 ≤ (if m = 2 then 0 else zla ru n r) ∧ (if m = 2 then 0 else zla ru n r) ≤ 2 := by unfold zla; split <;> (try split) <;> (try split) <;> omega
    generalize hal : (if m = 2 then 0 else zla ru n r) = a9 at al e9
    have rd : ∀ (Q' : Po), (∀ τ1, Fn (tS o) (nd n (h0 + k)) τ τ1 → τ1.1 (o + 2) (nd n (h0 + k)) = jI (zcd ru am ra cp (zC ru am ra pol r cp N) N 0 n (h0 + k)) → (∀ k1 : Nat, (k1 : Int) ≤ ru 10 → (n : Int) + k1 < ru 1 → τ1.1 (o + 5 + k1) (nd n (h0 + k)) = jI (zb ru am ra cp (fun t _ => zpr ru am t) k1 n (h0 + k))) → (0 < r → ∀ k1 : Nat, (k1 : Int) ≤ ru 10 → (n : Int) + k1 < ru 1 → ru 9 + ru 10 ≤ (n : Int) + k1 → τ1.1 (o + 9 + k1) (nd n (h0 + k)) = jI (zb ru am ra cp (fun t h => zpr ru am t - zl ru am t + ru 13 + N t h) k1 n (h0 + k))) → Q' none τ1) → MW l G (d + 3) mX8_reckonDeeds [.ref 15, .ref o, .int w7, .int (w10 + w11), .int w8, .int u] τ Q' := by
      intro Q' hQ'
      refine k_reckonDeeds n (h0 + k) r cp m _ _ N ho hR1 hL1 hS1 hn2 (by omega) hc hmr (by rw [ho1]; exact hr6) hr2 cu cd (fun k1 h' q1 q2 q3 q4 => ?_) (fun q0 k1 h' q1 q2 q3 q4 q5 => ?_) (fun q0 q1 => ?_) hNb2 hQ' e7 (by rw [e10, e11]; exact e12) e8 eu
      · exact (chl h' q3 q4 (by omega)).2.1 k1 (by omega) (by push_cast; omega)
      · exact (chl h' q4 q5 (by omega)).2.2.1 q0 k1 (by omega) (by push_cast; omega) (by push_cast; omega)
      · rw [hfr1 q0]
        exact hfr q0 (fun e => by have := hm2 e; omega) n (h0 + k) q1 hn2 (by omega)
    have hw12 : w10 + w11 = jI (nd n (h0 + k)) := by rw [e10, e11]; exact e12
    have hwr : ∀ τ1, Fn (tS o) (nd n (h0 + k)) τ τ1 → RC τ1 ru ∧ τ1.1 55 = σ.1 55 := by
      intro τ1 hF
      refine ⟨hR1.fr (funext fun j => hF.1 1 j (Or.inl (by rcases ho with rfl | rfl | rfl | rfl | rfl <;> decide))), ?_⟩
      rw [← h55]
      exact funext fun j => hF.1 55 j (Or.inl (by rcases ho with rfl | rfl | rfl | rfl | rfl <;> decide))
    -- the deed, by the mode
    have least : m ≠ 1 → ∀ (c1 c2 : Int), (1 ≤ a9 → c1 = zcd ru am ra cp (zC ru am ra pol r cp N) N 1 n (h0 + k)) → (2 ≤ a9 → c2 = zcd ru am ra cp (zC ru am ra pol r cp N) N 2 n (h0 + k)) → (if 1 ≤ a9 ∧ c1 < zcd ru am ra cp (zC ru am ra pol r cp N) N 0 n (h0 + k) then (if 2 ≤ a9 ∧ c2 < c1 then 2 else 1) else (if 2 ≤ a9 ∧ c2 < zcd ru am ra cp (zC ru am ra pol r cp N) N 0 n (h0 + k) then 2 else 0)) = zdd ru am ra pol cp (zC ru am ra pol r cp N) N r n (h0 + k) ∧ zdd ru am ra pol cp (zC ru am ra pol r cp N) N r n (h0 + k) ≤ a9 := by
      intro hm1 c1 c2 k1 k2
      rcases hm with ⟨q, q'⟩ | ⟨q, q'⟩ | ⟨q, q'⟩
      · subst q'
        rw [if_neg (by omega)] at hal
        unfold zla at hal
        simp only [zdd, zbd]
        by_cases z1 : ru 9 ≤ n ∧ (n : Int) + ru 10 < ru 1
        · rw [if_pos z1] at hal
          rw [if_pos z1]
          have k1 := k1 (by split at hal <;> omega)
          rw [k1]
          by_cases z2 : 0 < (r : Int)
          · rw [if_pos z2] at hal
            have k2 := k2 (by omega)
            rw [k2, ← hal]
            simp only [z2, true_and]
            constructor
            · simp
            · split <;> split <;> omega
          · rw [if_neg z2] at hal
            rw [← hal]
            simp only [z2, false_and, if_false]
            constructor
            · simp
            · split <;> omega
        · rw [if_neg z1] at hal
          rw [if_neg z1, ← hal]
          simp
      · exact absurd q hm1
      · subst q'
        rw [if_pos q] at hal
        simp only [zdd, zpd]
        rw [← hal]
        simp
    have told : m = 1 → ∀ de, pol = some de → (if a9 < de n (h0 + k) then 0 else de n (h0 + k)) = zdd ru am ra pol cp (zC ru am ra pol r cp N) N r n (h0 + k) := by
      intro hm1 de hde
      have hb := hpol de hde n (h0 + k) hn2 (by omega)
      subst hde
      rw [if_neg (by omega)] at hal
      unfold zla at hal
      simp only [zdd, zpd]
      split at hal
      · next z1 =>
        split at hal
        · next z2 => rw [if_neg (by omega), if_pos (by omega)]
        · next z2 =>
          by_cases z3 : de n (h0 + k) = 2
          · rw [if_pos (by omega), if_neg (by omega)]
          · rw [if_neg (by omega), if_pos (by omega)]
      · next z1 =>
        by_cases z3 : de n (h0 + k) = 0
        · rw [if_neg (by omega), if_pos (by omega)]
        · rw [if_pos (by omega), if_neg (by omega)]
    have mayA : 1 ≤ a9 → ru 9 ≤ n ∧ (n : Int) + ru 10 < ru 1 := by
      intro q
      rw [← hal] at q
      unfold zla at q
      split at q
      · omega
      · split at q
        · assumption
        · omega
    have mayR : 2 ≤ a9 → 0 < r := by
      intro q
      rw [← hal] at q
      unfold zla at q
      split at q
      · omega
      · split at q
        · split at q <;> omega
        · omega
    have zc1 : zcd ru am ra cp (zC ru am ra pol r cp N) N 1 n (h0 + k) = zb ru am ra cp (fun t _ => zpr ru am t) (ru 10).toNat n (h0 + k) := rfl
    have zc2 : zcd ru am ra cp (zC ru am ra pol r cp N) N 2 n (h0 + k) = zb ru am ra cp (fun t h => zpr ru am t - zl ru am t + ru 13 + N t h) (ru 10).toNat n (h0 + k) := rfl
    have hTb := ho
    rcases ho with rfl | rfl | rfl | rfl | rfl <;>
    · refine wX8_build [(175, [0, 1, 2, 3, 4, 5, 7, 8, 9, 10, 11, 12, 13])] 120 ?_
      refine brlt ((n : Int) - y0) k (fun q => by omega) (fun _ => ?_) (by rw [e7, ey, jsub]) e11
      refine rd _ (fun τ1 hF g1 g2 g3 => ?_)
      obtain ⟨hRt, h55t⟩ := hwr τ1 hF
      refine breq m 1 (fun hm1 => ?_) (fun hm1 => ?_) eu
      · obtain ⟨de, hde⟩ : ∃ de, pol = some de := by
          rcases hm with ⟨q, q'⟩ | ⟨q, q'⟩ | ⟨q, q'⟩
          · omega
          · exact Option.isSome_iff_exists.mp q'
          · omega
        have hb := hpol de hde n (h0 + k) hn2 (by omega)
        have ht := told hm1 de hde
        have hdv := (hD hm1 de hde n (h0 + k) hn2 (by omega)).1
        rw [← h55t] at hdv
        refine k_deedOf n (h0 + k) (by decide) (by omega) hdv ?_ e7 (by rw [ez, e11, jadd]; congr 1)
        refine brlt a9 (de n (h0 + k)) (fun z => ?_) (fun z => ?_) e9 rfl
        · rw [if_pos z] at ht
          exact fin τ1 hF g1 g2 g3 _ _ hw12 _ (by rw [← ht]; rfl)
        · rw [if_neg (by omega)] at ht
          exact fin τ1 hF g1 g2 g3 _ _ hw12 _ (by rw [← ht])
      · obtain ⟨hl1, hl2⟩ := least hm1 (if 1 ≤ a9 then zcd ru am ra cp (zC ru am ra pol r cp N) N 1 n (h0 + k) else 0) (if 2 ≤ a9 then zcd ru am ra cp (zC ru am ra pol r cp N) N 2 n (h0 + k) else 0) (fun q => if_pos q) (fun q => if_pos q)
        refine k_leastDeed (nd n (h0 + k)) a9 (zcd ru am ra cp (zC ru am ra pol r cp N) N 0 n (h0 + k)) (if 1 ≤ a9 then zcd ru am ra cp (zC ru am ra pol r cp N) N 1 n (h0 + k) else 0) (if 2 ≤ a9 then zcd ru am ra cp (zC ru am ra pol r cp N) N 2 n (h0 + k) else 0) hTb hRt (by omega) al g1 (fun q => ?_) (fun q => ?_) (blt 0 (Or.inl rfl)) ?_ ?_ ?_ hw12 e9
        · rw [if_pos q, zc1]
          exact g2 (ru 10).toNat (by omega) (by have := mayA q; omega)
        · rw [if_pos q, zc2]
          exact g3 (mayR q) (ru 10).toNat (by omega) (by have := mayA (by omega); omega) (by have := mayA (by omega); omega)
        · split
          · next q => exact blt 1 (Or.inr ⟨mayA q, Or.inl rfl⟩)
          · decide
        · split
          · next q => exact blt 2 (Or.inr ⟨mayA (by omega), Or.inr ⟨rfl, by have := mayR q; omega⟩⟩)
          · decide
        · rw [hl1]
          refine brlt a9 (zdd ru am ra pol cp (zC ru am ra pol r cp N) N r n (h0 + k)) (fun z => by omega) (fun z => ?_) e9 rfl (rb := by omega)
          exact fin τ1 hF g1 g2 g3 _ _ hw12 _ rfl
  -- a year's nodes
  have row : ∀ (m1 n k : Nat) (τ : Mm) (w7 w8 w9 w10 w11 : Int32), k + m1 = n - y0 + 1 → y0 ≤ n → (n : Int) < ru 1 → I τ (n + 1) k → w7 = jI n → w8 = jI (zd ru am cp (n + 1)) → w9 = jI (if m = 2 then 0 else zla ru n r) → w10 = jI (nd n h0) → w11 = jI k → (∀ τ' v, I τ' n 0 → v = jI ((n : Int) - 1) → Wp l G (d + 4) mX8_build 41 [(0, .ref 15), (1, .ref o), (2, .int y), (3, .int z), (4, .int u), (5, .int (jI (ru 1))), (7, .int v)] [] τ' Q) → Wp l G (d + 4) mX8_build 94 [(0, .ref 15), (1, .ref o), (2, .int y), (3, .int z), (4, .int u), (5, .int (jI (ru 1))), (7, .int w7), (8, .int w8), (9, .int w9), (10, .int w10), (11, .int w11)] [] τ Q := by
    intro m1
    induction m1 with
    | zero =>
      intro n k τ w7 w8 w9 w10 w11 hk h1 h2 hI e7 e8 e9 e10 e11 hgo
      refine wX8_build [(41, [0, 1, 2, 3, 4, 5, 7])] 60 ?_
      refine brlt ((n : Int) - y0) k (fun _ => ?_) (fun q => by omega) (by rw [e7, ey, jsub]) e11
      exact hgo τ _ ⟨hI.1, hI.2.1, hI.2.2.1, fun t h q1 q2 q3 q4 q5 => hI.2.2.2 t h q1 q2 q3 q4 (by omega)⟩ (by rw [e7, show (-1 : Int32) = jI (-1) from rfl, jadd]; rfl)
    | succ m1 ih =>
      intro n k τ w7 w8 w9 w10 w11 hk h1 h2 hI e7 e8 e9 e10 e11 hgo
      exact node n k τ w7 w8 w9 w10 w11 h1 h2 (by omega) hI e7 e8 e9 e10 e11 (fun τ' v hI' hv => ih n (k + 1) τ' w7 w8 w9 w10 v (by omega) h1 h2 hI' e7 e8 e9 e10 hv hgo)
  have outer : ∀ (n : Nat) (τ : Mm) (v : Int32), v = jI ((n : Int) - 1) → (n : Int) ≤ ru 1 → I τ n 0 → Wp l G (d + 4) mX8_build 41 [(0, .ref 15), (1, .ref o), (2, .int y), (3, .int z), (4, .int u), (5, .int (jI (ru 1))), (7, .int v)] [] τ Q := by
    intro n
    induction n with
    | zero =>
      intro τ v hv h1 hI
      refine wX8_build [] 60 ?_
      refine brlt (((0 : Nat) : Int) - 1) y0 (fun _ => ?_) (fun q => by omega) hv ey
      exact hq τ hI.1 hI.2.1 (fun t h q1 q2 q3 q4 => hI.2.2.2 t h q1 q2 q3 q4 (Or.inl (Nat.zero_le _))) hI.2.2.1
    | succ n ih =>
      intro τ v hv h1 hI
      push_cast at h1
      have hv : v = jI n := by rw [hv]; congr 1; omega
      subst hv
      by_cases hf : y0 ≤ n
      · obtain ⟨hR1, hL1, hS1, ho1, h55, hfr1⟩ := base τ hI.1
        have go := fun w9 e9 => row (n - y0 + 1) n 0 τ (jI n) (jI (zd ru am cp (n + 1))) w9 (jI (nd n h0)) 0 (by omega) hf (by omega) hI rfl rfl e9 rfl rfl (fun τ' v hI' hv => ih τ' v hv (by omega) hI')
        have h5' : τ.1 o 5 = jI cp := by rw [ho1]; exact hr5
        have h6' : τ.1 o 6 = jI r := by rw [ho1]; exact hr6
        rcases ho with rfl | rfl | rfl | rfl | rfl <;>
        · refine wX8_build [(94, [0, 1, 2, 3, 4, 5, 7, 8, 9, 10, 11])] 80 ?_
          refine brlt n y0 (fun q => by omega) (fun _ => ?_) rfl ey
          refine k_dueAt (n + 1) cp hr hL1 (by omega) (by push_cast; omega) hc ?_ (by first | rfl | assumption | (simp only [jlit, jneg, jadd, jsub, jmul]; done) | (simp only [jlit, jneg, jadd, jsub, jmul]; congr 1 <;> omega) | (congr 1 <;> omega)) h5'
          refine breq m 2 (fun hm2' => ?_) (fun hm2' => ?_) eu
          · refine k_nodeOf n h0 ?_ rfl ez
            exact go _ (by rw [if_pos hm2']; rfl)
          · refine k_lastAllowed n r hR1 (by omega) (by omega) ?_ rfl h6'
            refine k_nodeOf n h0 ?_ rfl ez
            exact go _ (by rw [if_neg hm2'])
      · refine wX8_build [] 60 ?_
        refine brlt n y0 (fun _ => ?_) (fun q => by omega) rfl ey
        exact hq τ hI.1 hI.2.1 (fun t h q1 q2 q3 q4 => hI.2.2.2 t h q1 q2 q3 q4 (Or.inl (by omega))) hI.2.2.1
  have hndY := nd_lt (t := (ru 1).toNat) (h := h0 + ((ru 1).toNat - y0)) (by omega) (by omega)
  have hnde : nd (ru 1).toNat (h0 + ((ru 1).toNat - y0)) = nd (ru 1).toNat h0 + ((ru 1).toNat - y0) := by unfold nd; omega
  have hin : ∀ τ : Mm, τ.2 = σ.2 → (∀ b, b ≠ o + 1 → τ.1 b = σ.1 b) → (∀ j, τ.1 (o + 1) j = if nd (ru 1).toNat h0 ≤ j ∧ j < nd (ru 1).toNat h0 + ((ru 1).toNat - y0) + 1 then (0 : Int32) else σ.1 (o + 1) j) → I τ (ru 1).toNat 0 := by
    intro τ e1 e2 e3
    refine ⟨fun a ha => e2 a (fun e => ha (by rw [e]; unfold bS; simp)), e1, fun h q1 q2 => ?_, fun t h q1 q2 q3 q4 q5 => by omega⟩
    rw [e3, if_pos (by unfold nd; omega)]
    rfl
  have hTb := ho
  obtain ⟨l1, -, -, -⟩ := Tb_len ho
  rcases ho with rfl | rfl | rfl | rfl | rfl <;>
  · refine vX8_build [(41, [0, 1, 2, 3, 4, 5, 7])] 80 ?_
    refine ldI 14 1 (hR.2 1 (by omega)) ?_
    refine k_nodeOf (ru 1).toNat h0 ?_ (by rw [hY]) ez
    refine c_fill4 (nd (ru 1).toNat h0) (nd (ru 1).toNat h0 + ((ru 1).toNat - y0) + 1) (by decide) (by decide) (by omega) (by show _ ≤ 91; omega) (by decide) (fun τ e1 e2 e3 => ?_) rfl (by rw [ey, jadd, jsub, jlit, jadd]; congr 1; push_cast; omega)
    exact outer (ru 1).toNat τ _ (by rw [jlit, jsub, hY]) (by omega) (hin τ e1 e2 e3)
theorem k_build {y z u : Int32} (pol : Option (Nat → Nat → Int)) (N : Nat → Nat → Int) (r y0 h0 : Nat) (cp m : Int) (ho : Tb o) (hR : RC σ ru) (hL : LC σ ru am) (hS : SC σ ru ra) (hy : (y0 : Int) < ru 1) (hh : h0 ≤ y0) (hc : 0 ≤ cp ∧ cp ≤ 999) (hm : Md m pol) (hr5 : σ.1 o 5 = jI cp) (hr6 : σ.1 o 6 = jI r) (hr2 : r ≤ 2) (hD : m = 1 → ∀ de, pol = some de → DC σ 55 ru de)
    (hfr : 0 < r → m ≠ 2 → ∀ t h : Nat, ru 9 + ru 10 ≤ t → (t : Int) < ru 1 → h ≤ t → σ.1 (frw m r) (nd t h) = jI (N t h)) (hm2 : m = 2 → r = 0)
    (hNb : 0 < r → ∀ t h : Nat, (t : Int) < ru 1 → h ≤ t → 0 ≤ N t h ∧ N t h ≤ 690000)
    (hq : ∀ τ : Mm, (∀ a, a ∉ bS o → τ.1 a = σ.1 a) → τ.2 = σ.2 → (∀ t h : Nat, y0 ≤ t → (t : Int) < ru 1 → h0 ≤ h → h ≤ h0 + (t - y0) → Nt τ o ru am ra pol r cp N t h) → Q none τ)
    (ey : y = jI y0 := by first | rfl | assumption | (simp only [jlit, jneg, jadd, jsub, jmul]; done) | (simp only [jlit, jneg, jadd, jsub, jmul]; congr 1 <;> omega) | (congr 1 <;> omega)) (ez : z = jI h0 := by first | rfl | assumption | (simp only [jlit, jneg, jadd, jsub, jmul]; done) | (simp only [jlit, jneg, jadd, jsub, jmul]; congr 1 <;> omega) | (congr 1 <;> omega)) (eu : u = jI m := by first | rfl | assumption | (simp only [jlit, jneg, jadd, jsub, jmul]; done) | (simp only [jlit, jneg, jadd, jsub, jmul]; congr 1 <;> omega) | (congr 1 <;> omega)) : MW l G (d + 4) mX8_build [.ref 15, .ref o, .int y, .int z, .int u] σ Q := by
  exact k_buildZ pol N r y0 h0 cp m ho hR hL hS hy hh hc hm hr5 hr6 hr2 hD hfr hm2 hNb (fun τ g1 g2 g3 _ => hq τ g1 g2 g3) ey ez eu
end KB
