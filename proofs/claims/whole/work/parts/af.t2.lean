-- till: the reference
theorem nT_in {ru : Nat → Int} {W : Wk} {x : Int} (hr : RB ru) (hB : WB ru W) (ht : (W.t : Int) < ru 1) (hh : W.h ≤ W.t) (hx : 0 ≤ x ∧ x ≤ 999) : ∀ (r i j : Nat), (i : Int) < ru 1 → j ≤ i → 0 ≤ nT ru W x r i j ∧ nT ru W x r i j ≤ r * 310000 := by
  have ham : ∀ j, 0 ≤ W.am j := fun j => (hB.2.2.2.2.2.2.2.1 j).1
  have hr' := hr
  unfold RB at hr'
  intro r
  induction r with
  | zero => intro i j _ _; show (0 : Int) ≤ 0 ∧ (0 : Int) ≤ ((0 : Nat) : Int) * 310000; omega
  | succ r ih =>
    intro i j hi hj
    show 0 ≤ (if i = W.t ∧ j = W.h then zC ru W.am (raT W x) none r (cpT ru x) (nT ru W x r) W.t W.h else zN ru W.am W.ra none (r + 1) i j) ∧ (if i = W.t ∧ j = W.h then zC ru W.am (raT W x) none r (cpT ru x) (nT ru W x r) W.t W.h else zN ru W.am W.ra none (r + 1) i j) ≤ ((r + 1 : Nat) : Int) * 310000
    split
    · have := zC_in (pol := none) (r := (r : Int)) (cp := cpT ru x) (N := nT ru W x r) (n := r * 310000) hr ham (fun t h _ _ => (raT_in hB hx t h).1) (fun de q => by simp at q) (by unfold cpT; omega) (fun _ => ih) (by omega) ((ru 1).toNat - W.t) W.t W.h (by omega) hh
      push_cast
      omega
    · exact zN_in (pol := none) (ra := W.ra) hr ham (fun t h _ _ => (hB.2.2.2.2.2.2.2.2.1 t h).1) (fun de q => by simp at q) (r + 1) i j hi hj
section MTi
variable {l : Launch} {G : GT} {d : Nat} {σ : Mm} {Q : Po} {ru : Nat → Int} {W : Wk}
theorem putR_ra (W : Wk) (x y : Int) : ((W.putR W.t W.h y).putR W.t W.h x).ra = raT W x := by
  funext i j
  show (if i = W.t ∧ j = W.h then x else if i = W.t ∧ j = W.h then y else W.ra i j) = (if i = W.t ∧ j = W.h then x else W.ra i j)
  split <;> rfl
theorem putR_id (W : Wk) : W.putR W.t W.h (W.ra W.t W.h) = W := by
  show (W.1, W.2.1, (fun i j => if i = W.t ∧ j = W.h then W.ra W.t W.h else W.2.2.1 i j), W.2.2.2) = W
  have : (fun i j => if i = W.t ∧ j = W.h then W.ra W.t W.h else W.2.2.1 i j) = W.2.2.1 := by
    funext i j
    by_cases q : i = W.t ∧ j = W.h
    · rw [if_pos q, q.1, q.2]; rfl
    · rw [if_neg q]
  rw [this]
  rfl
theorem c_till (hM : RM σ ru W) (hq : ∀ τ, Qf σ τ → Q (some (.int (jI (aTill ru W)))) τ) : MW l G (d + 11) mX12_till [.ref 98] σ Q := by
  have f0 : Qf σ (uI σ 98 0 0) := Qf.rf.u8 (by decide)
  have M0 := hM.fr f0
  have hr := hM.2.1.1
  have hr' := hr
  unfold RB at hr'
  have hB := hM.2.2.2.2
  have hW := hB
  unfold WB at hW
  obtain ⟨hr3, r2, ht, hh, hht⟩ := hM.r
  have ham : ∀ j, 0 ≤ W.am j := fun j => (hB.2.2.2.2.2.2.2.1 j).1
  unfold aTill at hq
  refine vX12_till [(53, [0, 1, 2, 3])] 80 ?_
  refine c_over M0 ?_
  refine brz _ (fun q => ?_) (fun q => ?_)
  · have h6 : W.f 6 = 0 := by omega
    have hT := hW.2.2.2.2.2.1 h6
    have hTt : (W.t : Int) < ru 1 := by omega
    refine c_laysNow M0 (fun τ1 F1 L1 g3 g4 => ?_)
    have F1 := f0.tr F1
    have M1 := hM.fr F1
    refine c_copyRow (a := 108) (b := 109) 0 0 (by decide) (by decide) (by decide) (by decide) (by decide) (fun τ2 k1 k2 k3 => ?_) rfl rfl
    have F2 : Qf σ τ2 := F1.tr ⟨fun a q => k2 a (fun z => q (by rw [z]; decide)), fun a _ => by rw [k1], fun k _ => by rw [k2 98 (by decide)]⟩
    have M2 := hM.fr F2
    have R2 : Mr τ2 ru 109 W := by
      have : Rw (τ2.1 108) ru W 0 (fun _ _ => 0) ∨ True := Or.inr trivial
      obtain ⟨m1, m2, m3, m4⟩ := M1.2.2.1
      have e : ∀ j, j < 494 → τ2.1 109 j = τ1.1 108 j := fun j hj => by rw [k3 j, if_pos (by omega), show 0 + (j - 0) = j by omega]
      refine ⟨fun k hk => by rw [e k (by omega)]; exact m1 k hk, fun j hj => by rw [e _ (by omega)]; exact m2 j hj, fun t h q1 q2 => ?_, fun t h q1 q2 => ?_⟩
      · rw [e _ (by omega)]; exact m3 t h q1 q2
      · rw [e _ (by omega)]; exact m4 t h q1 q2
    refine ldI 494 0 (show _ = jI (W.t : Int) by rw [ht]; exact M2.2.2.1.1 0 (by omega)) ?_
    refine ldI 494 1 (show _ = jI (W.h : Int) by rw [hh]; exact M2.2.2.1.1 1 (by omega)) ?_
    -- what the loop keeps
    let J : Mm → Prop := fun τ => Qf σ τ ∧ LY τ ru W.am ∧ (∃ y, Mr τ ru 109 (W.putR W.t W.h y)) ∧ TB τ 115 ru W.r 0 (W.t + 1) (zco ru W.am W.ra none W.r (W.f 2)) ∧ (∀ r', 0 < r' → r' ≤ W.r → ∀ i j : Nat, (i : Int) < ru 1 → j ≤ i → ¬ (i = W.t ∧ j = W.h) → τ.2 115 (ix4 (r' - 1) (12 * i + j + 1) i j) = jL (zN ru W.am W.ra none r' i j)) ∧ (ru 10 ≠ 0 → TN τ 115 ru W.r (zN ru W.am W.ra none W.r))
    have hJ2 : J τ2 := by
      refine ⟨F2, L1.fr (k2 112 (by decide)) (k2 113 (by decide)) (k2 114 (by decide)), ⟨_, by rw [putR_id]; exact R2⟩, fun t h q1 q2 q3 => ?_, fun r' q1 q2 i j q3 q4 _ => ?_, fun _ => ?_⟩
      · rw [k1]; exact g3 W.r (Nat.le_refl _) t h (by omega) q2 q3
      · rw [k1]; exact (g4 r' q2 q1 i j q3 q4).1
      · intro q0 t h q1 q2
        rw [k1]
        exact g4 W.r (Nat.le_refl _) q0 t h q1 q2
    by_cases hm : ru 9 ≤ W.f 0 ∧ W.f 0 + ru 10 < ru 1
    · have hm' : ru 9 ≤ (W.t : Int) ∧ (W.t : Int) + ru 10 < ru 1 := by rw [ht]; exact hm
      rw [if_neg (by omega)] at hq
      have key : ∀ (n : Nat) (τ : Mm) (u : Int32), n ≤ 1000 → u = jI ((n : Int) - 1) → J τ → gst (tillP ru W) 1000 = gst (tillP ru W) n → Wp l G (d + 11) mX12_till 53 [(0, .ref 98), (1, .int (jI (W.t : Int))), (2, .int (jI (W.h : Int))), (3, .int u)] [] τ Q := by
        intro n
        induction n with
        | zero =>
          intro τ u hn hu hJ he
          have he : gst (tillP ru W) 1000 = -1 := he
          have hq := hq τ hJ.1
          rw [he] at hq
          refine wX12_till [] 60 ?_
          exact brlt ((0 : Nat) - 1 : Int) 0 (fun _ => hq) (fun z => by omega) (hx := hu) (hy := rfl)
        | succ n ih =>
          intro τ u hn hu hJ he
          have es : gst (tillP ru W) (n + 1) = if tillP ru W n then (n : Int) else gst (tillP ru W) n := rfl
          obtain ⟨F, L, ⟨y, R⟩, TBh, Tn, Tz⟩ := hJ
          have M1 := hM.fr F
          have hu' : u = jI (n : Int) := by rw [hu]; congr 1; omega
          have hx : 0 ≤ (n : Int) ∧ (n : Int) ≤ 999 := by omega
          refine wX12_till [(53, [0, 1, 2, 3]), (82, [0, 1, 2, 3, 4])] 60 ?_
          refine brlt (n : Int) 0 (fun z => by omega) (fun _ => ?_) (hx := hu') (hy := rfl)
          refine c_mayEnd (W.t : Int) hr M1.2.1.2 (by omega) ?_ rfl
          refine brz _ (fun z => absurd hm' z) (fun _ => ?_)
          refine c_node (W.t : Int) (W.h : Int) ?_ rfl rfl
          refine stI 494 (25 + (12 * W.t + W.h)) ?_ (hi := by simp only [jlit, jadd]; congr 1)
          obtain ⟨τ3, h3⟩ : ∃ τ3, τ3 = uI τ 109 (25 + (12 * W.t + W.h)) u := ⟨_, rfl⟩
          have F3 : Qf σ τ3 := by rw [h3]; exact F.uA (by decide) (by decide)
          have R3 : Mr τ3 ru 109 ((W.putR W.t W.h y).putR W.t W.h (n : Int)) := by rw [h3]; exact R.putR W.t W.h (n : Int) hr hTt hht hx hu'
          have c3 : ∀ c, c ≠ 109 → τ3.1 c = τ.1 c := fun c hc => by rw [h3, uI_n hc]
          have d3 : τ3.2 = τ.2 := by rw [h3]; rfl
          rw [← h3]
          -- from the deed on
          have fin : ∀ ρ : Mm, ρ.1 = τ3.1 → (∀ a, a ≠ 115 → ρ.2 a = τ3.2 a) → TB ρ 115 ru W.r 0 (W.t + 1) (zco ru W.am W.ra none W.r (W.f 2)) → TN ρ 115 ru W.r (nU ru W (n : Int)) → (∀ r', 0 < r' → r' ≤ W.r → ∀ i j : Nat, (i : Int) < ru 1 → j ≤ i → ¬ (i = W.t ∧ j = W.h) → ρ.2 115 (ix4 (r' - 1) (12 * i + j + 1) i j) = jL (zN ru W.am W.ra none r' i j)) → (ru 10 ≠ 0 → TN ρ 115 ru W.r (zN ru W.am W.ra none W.r)) → Wp l G (d + 11) mX12_till 142 [(0, .ref 98), (1, .int (jI (W.t : Int))), (2, .int (jI (W.h : Int))), (3, .int u)] [] ρ Q := by
            intro ρ p1 p2 p3 p4 p5 p6
            have F4 : Qf σ ρ := F3.tr ⟨fun a _ => by rw [p1], fun a qb => p2 a (fun z => qb (by rw [z]; decide)), fun k _ => by rw [p1]⟩
            have M4 := hM.fr F4
            have R4 : Mr ρ ru 109 ((W.putR W.t W.h y).putR W.t W.h (n : Int)) := R3.fr (fun k _ => by rw [p1]) hr
            have P4 := R4.PM M4.2.1 (Or.inr (Or.inl rfl)) M4.2.2.2.1
            rw [putR_ra] at P4
            have L4 : LY ρ ru W.am := L.fr (by rw [p1, c3 112 (by decide)]) (by rw [p1, c3 113 (by decide)]) (by rw [p1, c3 114 (by decide)])
            refine wX12_till [(53, [0, 1, 2, 3])] 60 ?_
            refine ldI 494 3 (show _ = jI (W.r : Int) by rw [hr3]; exact M4.2.2.1.1 3 (by omega)) ?_
            refine ldI 494 2 (show _ = jI (W.f 2) from M4.2.2.1.1 2 (by omega)) ?_
            refine c_bestDeed (w := 109) (T := 115) W.r 0 W.t W.h (W.f 2) (zco ru W.am W.ra none W.r (W.f 2)) (nU ru W (n : Int)) P4 L4 (by decide) r2 (by omega) hTt hht (by omega) p3 p4 ?_ rfl rfl rfl rfl rfl
            have hz := zbd_in (ru := ru) (am := W.am) (ra := raT W (n : Int)) (cp := W.f 2) (B := zco ru W.am W.ra none W.r (W.f 2)) (N := nU ru W (n : Int)) (r := W.r) (t := W.t) (h := W.h)
            refine breq (zbd ru W.am (raT W (n : Int)) (W.f 2) (zco ru W.am W.ra none W.r (W.f 2)) (nU ru W (n : Int)) W.r W.t W.h) 0 (fun z => ?_) (fun z => ?_) (hx := rfl) (hy := rfl)
            · refine ih ρ _ (by omega) (by rw [hu']; simp only [jlit, jneg, jadd, jsub]; congr 1) ⟨F4, L4, ?_, p3, p5, p6⟩ ?_
              · refine ⟨(n : Int), ?_⟩
                have e : (W.putR W.t W.h y).putR W.t W.h (n : Int) = W.putR W.t W.h (n : Int) := by
                  show (W.1, W.2.1, ((W.putR W.t W.h y).putR W.t W.h (n : Int)).ra, W.2.2.2) = (W.1, W.2.1, raT W (n : Int), W.2.2.2)
                  rw [putR_ra]
                rw [e] at R4
                exact R4
              · rw [he, es, if_neg]
                unfold tillP
                rw [decide_eq_true_eq]
                exact fun k => k z
            · have hq := hq ρ F4
              rw [he, es, if_pos (by unfold tillP; rw [decide_eq_true_eq]; exact z), ← hu'] at hq
              exact hq
          by_cases h10 : ru 10 = 0
          · have inner : ∀ (m r0 : Nat) (v : Int32) (ρ : Mm), r0 + m = W.r → v = jI (r0 : Int) → ρ.1 = τ3.1 → (∀ a, a ≠ 115 → ρ.2 a = τ3.2 a) → TB ρ 115 ru W.r 0 (W.t + 1) (zco ru W.am W.ra none W.r (W.f 2)) → TN ρ 115 ru r0 (nT ru W (n : Int) r0) → (∀ r', 0 < r' → r' ≤ W.r → ∀ i j : Nat, (i : Int) < ru 1 → j ≤ i → ¬ (i = W.t ∧ j = W.h) → ρ.2 115 (ix4 (r' - 1) (12 * i + j + 1) i j) = jL (zN ru W.am W.ra none r' i j)) → Wp l G (d + 11) mX12_till 82 [(0, .ref 98), (1, .int (jI (W.t : Int))), (2, .int (jI (W.h : Int))), (3, .int u), (4, .int v)] [] ρ Q := by
              intro m
              induction m with
              | zero =>
                intro r0 v ρ hm0 hv p1 p2 p3 p4 p5
                have F4 : Qf σ ρ := F3.tr ⟨fun a _ => by rw [p1], fun a qb => p2 a (fun z => qb (by rw [z]; decide)), fun k _ => by rw [p1]⟩
                have M4 := hM.fr F4
                refine wX12_till [(142, [0, 1, 2, 3])] 60 ?_
                refine ldI 494 3 (show _ = jI (W.r : Int) by rw [hr3]; exact M4.2.2.1.1 3 (by omega)) ?_
                refine brle (W.r : Int) (r0 : Int) (fun _ => ?_) (fun z => by omega) (hx := rfl) (hy := hv)
                refine fin ρ p1 p2 p3 ?_ p5 (fun z => absurd h10 z)
                unfold nU
                rw [if_pos h10]
                rw [show r0 = W.r by omega] at p4
                exact p4
              | succ m ihm =>
                intro r0 v ρ hm0 hv p1 p2 p3 p4 p5
                have F4 : Qf σ ρ := F3.tr ⟨fun a _ => by rw [p1], fun a qb => p2 a (fun z => qb (by rw [z]; decide)), fun k _ => by rw [p1]⟩
                have M4 := hM.fr F4
                have R4 : Mr ρ ru 109 ((W.putR W.t W.h y).putR W.t W.h (n : Int)) := R3.fr (fun k _ => by rw [p1]) hr
                have P4 := R4.PM M4.2.1 (Or.inr (Or.inl rfl)) M4.2.2.2.1
                rw [putR_ra] at P4
                have L4 : LY ρ ru W.am := L.fr (by rw [p1, c3 112 (by decide)]) (by rw [p1, c3 113 (by decide)]) (by rw [p1, c3 114 (by decide)])
                refine wX12_till [(82, [0, 1, 2, 3, 4])] 80 ?_
                refine ldI 494 3 (show _ = jI (W.r : Int) by rw [hr3]; exact M4.2.2.1.1 3 (by omega)) ?_
                refine brle (W.r : Int) (r0 : Int) (fun z => by omega) (fun _ => ?_) (hx := rfl) (hy := hv)
                refine ldI 14 10 (show _ = jI 0 by rw [← h10]; exact M4.2.1.2 10 (by omega)) ?_
                refine breq 0 0 (fun _ => ?_) (fun z => absurd rfl z) (hx := rfl) (hy := rfl)
                refine c_node (W.t : Int) (W.h : Int) ?_ rfl rfl
                refine c_newCoupon (w := 109) W.t W.h P4 hTt hht ?_ rfl rfl
                rw [raT_at]
                refine c_laysBy (w := 109) (T := 115) (am := W.am) none (nT ru W (n : Int) r0) r0 (12 * W.t + W.h + 1) W.t (cpT ru (n : Int)) P4 L4 (by decide) (by omega) (by omega) (by unfold cpT; omega) p4 (fun q t h q1 q2 => ?_) (fun de q => by simp at q) rfl (fun π s1 s2 s3 s4 => ?_) hv (by simp only [jlit, jadd]; congr 1) rfl rfl
                · have := nT_in (x := (n : Int)) hr hB hTt hht hx r0 t h q1 q2
                  omega
                · have keep : ∀ r' b i j : Nat, b < 145 → (i : Int) < ru 1 → j ≤ i → b ≠ 12 * W.t + W.h + 1 → π.2 115 (ix4 r' b i j) = ρ.2 115 (ix4 r' b i j) := fun r' b i j b1 q1 q2 q3 => s3 _ (fun t' h' z1 z2 z3 z => by
                    have := ix4_inj (by omega) (by omega) (by omega) (by omega) (by omega) (by omega) z
                    omega)
                  refine ihm (r0 + 1) _ π (by omega) (by rw [hv]; simp only [jlit, jadd]; congr 1) (s1.trans p1) (fun a ha => (s2 a ha).trans (p2 a ha)) (fun t h q1 q2 q3 => ?_) (fun q0 i j q1 q2 => ?_) (fun r' q1 q2 i j q3 q4 q5 => ?_)
                  · obtain ⟨e1, e2, e3⟩ := p3 t h q1 q2 q3
                    exact ⟨fun q4 => by rw [keep W.r 0 t h (by omega) q4 q3 (by omega)]; exact e1 q4, e2, e3⟩
                  · have bn := nT_in (x := (n : Int)) hr hB hTt hht hx (r0 + 1) i j q1 q2
                    refine ⟨?_, by omega⟩
                    show π.2 115 (ix4 (r0 + 1 - 1) (12 * i + j + 1) i j) = _
                    rw [show r0 + 1 - 1 = r0 by omega]
                    by_cases e : i = W.t ∧ j = W.h
                    · rw [e.1, e.2, s4 W.t W.h (Nat.le_refl _) hTt hht]
                      show _ = jL (if W.t = W.t ∧ W.h = W.h then _ else _)
                      rw [if_pos ⟨rfl, rfl⟩]
                    · rw [nT_ne (r0 + 1) e, keep r0 (12 * i + j + 1) i j (by omega) q1 q2 (by omega)]
                      have := p5 (r0 + 1) (by omega) (by omega) i j q1 q2 e
                      rw [show r0 + 1 - 1 = r0 by omega] at this
                      exact this
                  · rw [keep (r' - 1) (12 * i + j + 1) i j (by omega) q3 q4 (by omega)]
                    exact p5 r' q1 q2 i j q3 q4 q5
            exact inner W.r 0 _ τ3 (by omega) rfl rfl (fun _ _ => rfl) (fun t h q1 q2 q3 => by rw [d3]; exact TBh t h q1 q2 q3) (fun q0 => absurd q0 (by omega)) (fun r' q1 q2 i j q3 q4 q5 => by rw [d3]; exact Tn r' q1 q2 i j q3 q4 q5)
          · have T3 : TN τ3 115 ru W.r (zN ru W.am W.ra none W.r) := fun q0 t h q1 q2 => by rw [d3]; exact Tz h10 q0 t h q1 q2
            have M3 := hM.fr F3
            have go142 := fin τ3 rfl (fun _ _ => rfl) (fun t h q1 q2 q3 => by rw [d3]; exact TBh t h q1 q2 q3) (by unfold nU; rw [if_neg h10]; exact T3) (fun r' q1 q2 i j q3 q4 q5 => by rw [d3]; exact Tn r' q1 q2 i j q3 q4 q5) (fun _ => T3)
            refine wX12_till [(142, [0, 1, 2, 3])] 60 ?_
            refine ldI 494 3 (show _ = jI (W.r : Int) by rw [hr3]; exact M3.2.2.1.1 3 (by omega)) ?_
            refine brle (W.r : Int) 0 (fun _ => go142) (fun z => ?_) (hx := rfl) (hy := rfl)
            refine ldI 14 10 (M3.2.1.2 10 (by omega)) ?_
            exact breq (ru 10) 0 (fun z => absurd z h10) (fun _ => go142) (hx := rfl) (hy := rfl)
      exact key 1000 τ2 _ (by omega) rfl hJ2 rfl
    · rw [if_pos (Or.inr hm)] at hq
      refine wX12_till [] 60 ?_
      refine brlt 999 0 (fun z => by omega) (fun _ => ?_) (hx := rfl) (hy := rfl)
      refine c_mayEnd (W.t : Int) hr M2.2.1.2 (by omega) ?_ rfl
      refine brz _ (fun _ => hq τ2 F2) (fun z => absurd (by rw [ht] at z; exact z) hm)
  · rw [if_pos (Or.inl q)] at hq
    exact hq _ f0
end MTi
