-- the reference: worth, strays
theorem Mr.de0 {σ : Mm} {ru : Nat → Int} {w : Nat} {W : Wk} {D : Nat → Nat → Int} {τ : Mm} (h : Mr σ ru 108 W) (e1 : ∀ k, k < 169 → τ.1 w k = σ.1 108 k) (e2 : ∀ t h : Nat, (t : Int) < ru 1 → h ≤ t → τ.1 w (169 + (12 * t + h)) = jI (D t h)) (hr : RB ru) : Mr τ ru w (W.deeds D) := by
  unfold RB at hr
  refine ⟨fun k hk => by rw [e1 k (by omega)]; exact h.1 k hk, fun j hj => by rw [e1 _ (by omega)]; exact h.2.1 j hj, fun t k q1 q2 => ?_, e2⟩
  rw [e1 _ (by omega)]
  exact h.2.2.1 t k q1 q2
section MQ6
variable {l : Launch} {G : GT} {d : Nat} {σ : Mm} {Q : Po} {ru : Nat → Int} {W : Wk}
theorem c_worth (hM : RM σ ru W) (hq : ∀ τ, Qf σ τ → Q (some (.long (jL (aWorth ru W)))) τ) : MW l G (d + 11) mX12_worth [.ref 98] σ Q := by
  have f0 : Qf σ (uI σ 98 0 0) := Qf.rf.u8 (by decide)
  have M0 := hM.fr f0
  have hr := hM.2.1.1
  have hr' := hr
  unfold RB at hr'
  have hW := hM.2.2.2.2
  unfold WB at hW
  obtain ⟨hr3, r2, ht, hh, hht⟩ := hM.r
  unfold aWorth at hq
  refine vX12_worth [(35, [0, 1])] 60 ?_
  refine c_over M0 ?_
  refine brz _ (fun q => ?_) (fun q => ?_)
  · rw [if_neg q] at hq
    have h6 : W.f 6 = 0 := by omega
    refine c_copyRow 0 0 (by decide) (by decide) (by decide) (by decide) (by decide) (fun τ1 g1 g2 g3 => ?_)
    have key : ∀ (n i : Nat) (τ : Mm) (u : Int32), i + n = 144 → u = jI (i : Int) → τ.2 = σ.2 → (∀ c, c ≠ 98 → c ≠ 109 → τ.1 c = σ.1 c) → (∀ k, k ≠ 0 → τ.1 98 k = σ.1 98 k) → (∀ j, j < 494 → τ.1 109 j = if 169 ≤ j ∧ j < 169 + i then 0 else σ.1 108 j) → Wp l G (d + 11) mX12_worth 35 [(0, .ref 98), (1, .int u)] [] τ Q := by
      intro n
      induction n with
      | zero =>
        intro i τ u hn hu e1 e2 e3 e4
        refine wX12_worth [] 60 ?_
        refine brle 144 (i : Int) (fun _ => ?_) (fun z => by omega)
        have F : Qf σ τ := by
          refine ⟨fun a qa => ?_, fun a _ => by rw [e1], fun k qk => e3 k (fun z => qk (by rw [z]; decide))⟩
          simp only [qA, List.mem_cons, List.not_mem_nil, or_false, not_or] at qa
          exact e2 a (by omega) (by omega)
        have M1 := hM.fr F
        have m9 : Mr τ ru 109 (W.deeds (fun _ _ => 0)) := Mr.de0 (D := fun _ _ => 0) hM.2.2.1 (fun k hk => by rw [e4 k (by omega), if_neg (by omega)]) (fun t h q1 q2 => by rw [e4 _ (by omega), if_pos (by omega)]; rfl) hr
        have b9 : WB ru (W.deeds (fun _ _ => 0)) := ⟨hW.1, hW.2.1, hW.2.2.1, hW.2.2.2.1, hW.2.2.2.2.1, hW.2.2.2.2.2.1, hW.2.2.2.2.2.2.1, hW.2.2.2.2.2.2.2.1, hW.2.2.2.2.2.2.2.2.1, fun _ _ => ⟨Int.le_refl 0, by show (0 : Int) ≤ 2; omega⟩⟩
        refine c_laysPolicy (W := W.deeds (fun _ _ => 0)) (Or.inr (Or.inl rfl)) M1.2.1 m9 M1.2.2.2.1 b9 (fun τ2 p1 p2 p3 p4 p5 => ?_)
        have F2 := F.la 116 (Or.inr (Or.inl rfl)) p1 p2
        have M2 := hM.fr F2
        have t1 := (p4 W.r (Nat.le_refl _) W.t W.h (by omega) (by omega) hht).1 (by omega)
        refine c_laysNowX M2 (fun ρ o1 o2 o3 o4 o5 => ?_)
        have F3 := F2.la 115 (Or.inl rfl) o1 o2
        have M3 := hM.fr F3
        have t2 := (o4 W.r (Nat.le_refl _) W.t W.h (by omega) (by omega) hht).1 (by omega)
        refine c_hereJ (T := 116) (by decide) M3 h6 ((congrFun (o2 116 (by decide) (by decide)) _).trans t1) ?_
        refine c_hereJ (T := 115) (by decide) M3 h6 t2 ?_
        have hq := hq ρ F3
        rw [← jLsub] at hq
        exact hq
      | succ n ih =>
        intro i τ u hn hu e1 e2 e3 e4
        refine wX12_worth [(35, [0, 1])] 60 ?_
        refine brle 144 (i : Int) (fun z => by omega) (fun _ => ?_)
        refine stI 494 (169 + i) ?_ (hi := by rw [hu]; first | rfl | assumption | (simp only [jlit, jneg, jadd, jsub, jmul]; done) | (simp only [jlit, jneg, jadd, jsub, jmul]; congr 1 <;> omega) | (congr 1 <;> omega))
        refine ih (i + 1) _ _ (by omega) (by rw [hu]; first | rfl | assumption | (simp only [jlit, jneg, jadd, jsub, jmul]; done) | (simp only [jlit, jneg, jadd, jsub, jmul]; congr 1 <;> omega) | (congr 1 <;> omega)) e1 (fun c q1 q2 => by rw [uI_n q2]; exact e2 c q1 q2) (fun k q => by rw [uI_n (by decide)]; exact e3 k q) (fun j hj => ?_)
        by_cases ej : j = 169 + i
        · subst ej
          rw [uI_at, if_pos (by omega)]
        · rw [uI_ne (Or.inr ej), e4 j hj]
          by_cases z : 169 ≤ j ∧ j < 169 + i
          · rw [if_pos z, if_pos (by omega)]
          · rw [if_neg z, if_neg (by omega)]
    exact key 144 0 τ1 _ (by omega) rfl g1 (fun c q1 q2 => by rw [g2 c q2, uI_n q1]) (fun k qk => by rw [g2 98 (by decide), uI_ne (Or.inr qk)]) (fun j hj => by rw [g3, if_pos (by omega), if_neg (by omega), uI_n (by decide), show 0 + (j - 0) = j by omega])
  · rw [if_pos q] at hq
    exact hq _ f0
theorem wDs_le (ru : Nat → Int) (W : Wk) (t h : Nat) : wDs ru W t h ≤ 1 := by unfold wDs; split <;> omega
theorem wDl_0 {ru : Nat → Int} {W : Wk} {i : Nat} (h : ¬ wC ru W (i / 12) (i % 12)) : wDl ru W i = 0 := by
  unfold wDl wDs
  rw [if_neg (fun z => h z.1)]
theorem c_strays {x : Int32} (w : Int) (hM : RM σ ru W) (rw' : R31 w) (hq : ∀ τ, Qf σ τ → Q (some (.int (jI (aStrays ru W w)))) τ) (ex : x = jI w := by first | rfl | assumption | (simp only [jlit, jneg, jadd, jsub, jmul]; done) | (simp only [jlit, jneg, jadd, jsub, jmul]; congr 1 <;> omega) | (congr 1 <;> omega)) : MW l G (d + 11) mX12_strays [.ref 98, .int x] σ Q := by
  have f0 : Qf σ (uI σ 98 0 0) := Qf.rf.u8 (by decide)
  have M0 := hM.fr f0
  have hr := hM.2.1.1
  have hr' := hr
  unfold RB at hr'
  have hW := hM.2.2.2.2
  unfold WB at hW
  obtain ⟨hr3, r2, ht, hh, hht⟩ := hM.r
  unfold aStrays at hq
  refine vX12_strays [(46, [0, 1, 2, 3, 4])] 60 ?_
  refine c_over M0 ?_
  refine brz _ (fun q => ?_) (fun q => ?_)
  · refine c_isIn w 0 2 ?_ (by rw [ex, jI_L rw'])
    refine brz _ (fun q2 => ?_) (fun q2 => ?_)
    · rw [if_pos (Or.inr q2)] at hq
      exact hq _ f0
    · rw [if_neg (fun z => z.elim q (fun v => v q2))] at hq
      refine c_laysNow M0 (fun τ F g2 g3 g4 => ?_)
      have M1 := M0.fr F
      have hq := hq τ (f0.tr F)
      have R := M1.2.2.1.1
      have hle : ∀ T, T ≤ 12 → allN (wDs ru W) T ≤ 200 := fun T hT => by have := allN_le (wDs_le ru W) T hT; omega
      have hD : DW τ 108 ru W.de := fun t h p1 p2 => ⟨M1.2.2.1.2.2.2 t h p1 p2, hW.2.2.2.2.2.2.2.2.2 t h⟩
      let I : Nat → Nat → Int32 → Int32 → Prop := fun T H u v => u = jI ((allN (wDs ru W) T + rowN (wDs ru W T) H : Nat) : Int) ∧ v = jI (fs (wDl ru W) (12 * T + H))
      have wrap : ∀ (T : Nat), T < 12 → fs (wDl ru W) (12 * (T + 1)) = fs (wDl ru W) (12 * T + (T + 1)) := fun T hT => by
        rw [show 12 * (T + 1) = (12 * T + (T + 1)) + (11 - T) by omega]
        refine fs_ext _ _ _ (fun i h1 h2 => wDl_0 (fun z => ?_))
        have : i / 12 = T := by omega
        have : i % 12 = i - 12 * T := by omega
        omega
      have inner : ∀ (n T h : Nat) (u v a b : Int32), h + n = T + 1 → (T : Int) < ru 1 → W.f 0 ≤ T → I T h u v → a = jI (T : Int) → b = jI (h : Int) → (∀ u' v' b', I (T + 1) 0 u' v' → Wp l G (d + 11) mX12_strays 156 [(0, .ref 98), (1, .int x), (2, .int u'), (3, .int v'), (4, .int a), (5, .int b')] [] τ Q) → Wp l G (d + 11) mX12_strays 60 [(0, .ref 98), (1, .int x), (2, .int u), (3, .int v), (4, .int a), (5, .int b)] [] τ Q := by
        intro n T
        induction n with
        | zero =>
          intro h u v a b hn hT hT0 hI ha hb hk
          refine wX12_strays [(156, [0, 1, 2, 3, 4, 5])] 60 ?_
          refine brlt (T : Int) (h : Int) (fun _ => ?_) (fun z => by omega)
          refine hk u v b ⟨?_, ?_⟩
          · rw [hI.1, show h = T + 1 by omega]
            rfl
          · rw [hI.2, show 12 * (T + 1) + 0 = 12 * (T + 1) by omega, wrap T (by omega), show h = T + 1 by omega]
        | succ n ih =>
          intro h u v a b hn hT hT0 hI ha hb hk
          have fi := fs_in (wDl ru W) (12 * T + h)
          have hw1 : wDl ru W (12 * T + h) = wDs ru W T h := by
            unfold wDl
            rw [show (12 * T + h) / 12 = T by omega, show (12 * T + h) % 12 = h by omega]
          have hrl := rowN_le (wDs_le ru W T) h
          have hal := hle T (by omega)
          have go : ∀ u' v', I T (h + 1) u' v' → Wp l G (d + 11) mX12_strays 150 [(0, .ref 98), (1, .int x), (2, .int u'), (3, .int v'), (4, .int a), (5, .int b)] [] τ Q := by
            intro u' v' hI'
            refine wX12_strays [(60, [0, 1, 2, 3, 4, 5])] 60 ?_
            exact ih (h + 1) _ _ _ _ (by omega) hT hT0 hI' ha (by rw [hb]; first | rfl | assumption | (simp only [jlit, jneg, jadd, jsub, jmul]; done) | (simp only [jlit, jneg, jadd, jsub, jmul]; congr 1 <;> omega) | (congr 1 <;> omega)) hk
          have same : wDs ru W T h = 0 → I T (h + 1) u v := fun z => by
            refine ⟨?_, ?_⟩
            · rw [hI.1]
              show _ = jI ((allN (wDs ru W) T + (rowN (wDs ru W T) h + wDs ru W T h) : Nat) : Int)
              rw [z]
              rfl
            · rw [hI.2]
              show _ = jI (if fs (wDl ru W) (12 * T + h) ≠ -1 then fs (wDl ru W) (12 * T + h) else if wDl ru W (12 * T + h) ≠ 0 then ((12 * T + h : Nat) : Int) else -1)
              rw [hw1, z]
              by_cases zz : fs (wDl ru W) (12 * T + h) ≠ -1
              · rw [if_pos zz]
              · rw [if_neg zz, if_neg (by simp), Decidable.not_not.mp zz]
          refine wX12_strays [(150, [0, 1, 2, 3, 4, 5])] 60 ?_
          refine brlt (T : Int) (h : Int) (fun z => by omega) (fun _ => ?_)
          refine c_canCome (W := W) (T : Int) (h : Int) (Or.inl rfl) (R 0 (by omega)) (R 1 (by omega)) (by omega) (by omega) (by omega) (by omega) ?_
          refine brz _ (fun z => ?_) (fun z => ?_)
          · refine go u v (same ?_)
            unfold wDs
            rw [if_neg]
            rintro ⟨zz, -⟩
            unfold wC at zz
            omega
          · refine ldI 494 3 (show _ = jI (W.r : Int) by rw [hr3]; exact R 3 (by omega)) ?_
            refine c_policyDeed W.de W.r T h M1.pm hD r2 hT (by omega) ?_
            refine ldI 494 3 (show _ = jI (W.r : Int) by rw [hr3]; exact R 3 (by omega)) ?_
            refine ldI 494 2 (R 2 (by omega)) ?_
            refine c_bestDeed W.r 0 T h (W.f 2) _ _ M1.pm g2 (by decide) r2 (by omega) hT (by omega) hW.2.1 ((g3 W.r (Nat.le_refl _)).up (by omega)) (g4 W.r (Nat.le_refl _)) ?_
            have bb := wBest_in ru W T h
            have bp : 0 ≤ wPol ru W T h ∧ wPol ru W T h ≤ 2 := by
              have := zpd_in (ru := ru) (r := W.r) (hW.2.2.2.2.2.2.2.2.2 T h)
              unfold wPol
              omega
            have hc : wC ru W T h := ⟨by omega, hT, by omega, by omega, by omega⟩
            refine breq (wPol ru W T h) (wBest ru W T h) (fun zz => ?_) (fun zz => ?_) (hx := rfl) (hy := rfl)
            · refine go u v (same ?_)
              unfold wDs
              rw [if_neg (fun q => q.2 zz)]
            · have h1 : wDs ru W T h = 1 := by
                unfold wDs
                rw [if_pos ⟨hc, zz⟩]
              have iu : u + 1 = jI ((allN (wDs ru W) T + rowN (wDs ru W T) (h + 1) : Nat) : Int) := by
                rw [hI.1]
                show _ = jI ((allN (wDs ru W) T + (rowN (wDs ru W T) h + wDs ru W T h) : Nat) : Int)
                rw [h1]
                first | rfl | assumption | (simp only [jlit, jneg, jadd, jsub, jmul]; done) | (simp only [jlit, jneg, jadd, jsub, jmul]; congr 1 <;> omega) | (congr 1 <;> omega)
              refine breq (fs (wDl ru W) (12 * T + h)) (-1) (fun z3 => ?_) (fun z3 => ?_) (hx := hI.2)
              · refine c_node (T : Int) (h : Int) ?_
                refine go _ _ ⟨iu, ?_⟩
                show _ = jI (if fs (wDl ru W) (12 * T + h) ≠ -1 then fs (wDl ru W) (12 * T + h) else if wDl ru W (12 * T + h) ≠ 0 then ((12 * T + h : Nat) : Int) else -1)
                rw [if_neg (fun q => q z3), hw1, h1, if_pos (by decide)]
                congr 1
              · refine go _ _ ⟨iu, ?_⟩
                rw [hI.2]
                show _ = jI (if fs (wDl ru W) (12 * T + h) ≠ -1 then fs (wDl ru W) (12 * T + h) else if wDl ru W (12 * T + h) ≠ 0 then ((12 * T + h : Nat) : Int) else -1)
                rw [if_pos z3]
      have outer : ∀ (n T : Nat) (u v a : Int32), T + n = (ru 1).toNat → W.f 0 ≤ T → I T 0 u v → a = jI (T : Int) → Wp l G (d + 11) mX12_strays 46 [(0, .ref 98), (1, .int x), (2, .int u), (3, .int v), (4, .int a)] [] τ Q := by
        intro n
        induction n with
        | zero =>
          intro T u v a hn hT0 hI ha
          have e144 : fs (wDl ru W) 144 = fs (wDl ru W) (12 * T + 0) := by
            rw [show 144 = (12 * T + 0) + (144 - 12 * T) by omega]
            refine fs_ext _ _ _ (fun i h1 h2 => wDl_0 (fun z => ?_))
            have : T ≤ i / 12 := by omega
            unfold wC at z
            omega
          have fi := fs_in (wDl ru W) 144
          rw [show (ru 1).toNat = T by omega] at hq
          have hu : u = jI ((allN (wDs ru W) T : Nat) : Int) := hI.1
          have hv : v = jI (fs (wDl ru W) 144) := by rw [e144]; exact hI.2
          refine wX12_strays [] 60 ?_
          refine ldI 14 1 (M1.2.1.2 1 (by omega)) ?_
          refine brle (ru 1) (T : Int) (fun _ => ?_) (fun z => by omega) (hx := rfl) (hy := ha)
          refine breq w 0 (fun z => ?_) (fun z => ?_) (hx := ex) (hy := rfl)
          · rw [if_pos z, ← hu] at hq
            exact hq
          · rw [if_neg z] at hq
            refine breq (fs (wDl ru W) 144) (-1) (fun z2 => ?_) (fun z2 => ?_) (hx := hv) (hy := rfl)
            · rw [if_pos z2] at hq
              exact hq
            · rw [if_neg z2] at hq
              refine breq w 1 (fun z3 => ?_) (fun z3 => ?_) (hx := ex) (hy := rfl)
              · rw [if_pos z3, ← jdiv (b := 12) (by omega) (by omega) (by omega) (by omega), ← hv] at hq
                exact ⟨by decide, hq⟩
              · rw [if_neg z3, ← jrem (b := 12) (by omega) (by omega) (by omega) (by omega), ← hv] at hq
                exact ⟨by decide, hq⟩
        | succ n ih =>
          intro T u v a hn hT0 hI ha
          refine wX12_strays [(60, [0, 1, 2, 3, 4, 5])] 60 ?_
          refine ldI 14 1 (M1.2.1.2 1 (by omega)) ?_
          refine brle (ru 1) (T : Int) (fun z => by omega) (fun _ => ?_)
          refine inner (T + 1) T 0 u v a _ (by omega) (by omega) hT0 hI ha rfl (fun u' v' b' hI' => ?_)
          refine wX12_strays [(46, [0, 1, 2, 3, 4])] 60 ?_
          exact ih (T + 1) _ _ _ (by omega) (by omega) hI' (by rw [ha]; first | rfl | assumption | (simp only [jlit, jneg, jadd, jsub, jmul]; done) | (simp only [jlit, jneg, jadd, jsub, jmul]; congr 1 <;> omega) | (congr 1 <;> omega))
      refine ldI 494 0 (show _ = jI (W.t : Int) by rw [ht]; exact R 0 (by omega)) ?_
      refine outer ((ru 1).toNat - W.t) W.t _ _ _ (by omega) (by omega) ⟨?_, ?_⟩ rfl
      · rw [allN_zero W.t (fun t h q1 q2 => by unfold wDs; rw [if_neg (fun z => by have := z.1; unfold wC at this; omega)])]
        rfl
      · have e := fs_ext (wDl ru W) 0 (12 * W.t + 0) (fun i h1 h2 => wDl_0 (fun z => by
          have : i / 12 < W.t := by omega
          unfold wC at z
          omega))
        rw [show 0 + (12 * W.t + 0) = 12 * W.t + 0 by omega] at e
        rw [e]
        rfl
  · rw [if_pos (Or.inl q)] at hq
    exact hq _ f0
end MQ6
