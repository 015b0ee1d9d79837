-- fair: both
section MFa
variable {l : Launch} {G : GT} {d : Nat} {σ : Mm} {Q : Po} {ru : Nat → Int} {W : Wk}
theorem zC_b (hr : RB ru) (hB : WB ru W) (cp : Int) (hc : 0 ≤ cp ∧ cp ≤ 999) (r : Nat) (r2 : r ≤ 2) (t h : Nat) (ht : (t : Int) ≤ ru 1) (hh : h ≤ t) : 0 ≤ zC ru W.am W.ra none r cp (zN ru W.am W.ra none r) t h ∧ zC ru W.am W.ra none r cp (zN ru W.am W.ra none r) t h ≤ 1000000 := by
  unfold WB at hB
  have := zco_in (pol := none) (ra := W.ra) hr (fun j => (hB.2.2.2.2.2.2.2.1 j).1) (fun t h _ _ => (hB.2.2.2.2.2.2.2.2.1 t h).1) (fun de q => by simp at q) hc r t h ht hh
  unfold zco at this
  omega
theorem c_fair (hM : RM σ ru W) (hq : ∀ τ, Qf σ τ → Q (some (.int (jI (aFair ru W)))) τ) : MW l G (d + 11) mX12_fair [.ref 98] σ Q := by
  have f0 : Qf σ (uI σ 98 0 0) := Qf.rf.u8 (by decide)
  have M0 := hM.fr f0
  have hr := hM.2.1.1
  have hr' := hr
  unfold RB at hr'
  have hB := hM.2.2.2.2
  have hW := hB
  unfold WB at hW
  obtain ⟨hr3, r2, ht, hh, hht⟩ := hM.r
  unfold aFair at hq
  refine vX12_fair [(26, [0, 1])] 60 ?_
  refine c_over M0 ?_
  refine brz _ (fun q => ?_) (fun q => ?_)
  · rw [if_neg q] at hq
    have h6 : W.f 6 = 0 := by omega
    have hT := hW.2.2.2.2.2.1 h6
    have hl := zl_in hr (fun j => (hW.2.2.2.2.2.2.2.1 j).1) W.t
    refine c_laysNow M0 (fun τ1 F1 L1 g3 g4 => ?_)
    have g4 := g4 W.r (Nat.le_refl _)
    have F1 := f0.tr F1
    have key : ∀ (n : Nat) (τ : Mm) (u : Int32), n ≤ 1000 → u = jI ((n : Int) - 1) → Qf σ τ → LY τ ru W.am → TN τ 115 ru W.r (zN ru W.am W.ra none W.r) → gst (fairP ru W) 1000 = gst (fairP ru W) n → Wp l G (d + 11) mX12_fair 26 [(0, .ref 98), (1, .int u)] [] τ Q := by
      intro n
      induction n with
      | zero =>
        intro τ u hn hu F L N he
        have he : gst (fairP ru W) 1000 = -1 := he
        have hq := hq τ F
        rw [he] at hq
        refine wX12_fair [] 60 ?_
        exact brlt ((0 : Nat) - 1 : Int) 0 (fun _ => hq) (fun z => by omega) (hx := hu) (hy := rfl)
      | succ n ih =>
        intro τ u hn hu F L N he
        have es : gst (fairP ru W) (n + 1) = if fairP ru W n then (n : Int) else gst (fairP ru W) n := rfl
        have M1 := hM.fr F
        have hb := zC_b hr hB (n : Int) (by omega) W.r r2 W.t W.h (by omega) hht
        have hu' : u = jI (n : Int) := by rw [hu]; congr 1; omega
        refine wX12_fair [(26, [0, 1])] 60 ?_
        refine brlt (n : Int) 0 (fun z => by omega) (fun _ => ?_) (hx := hu') (hy := rfl)
        refine ldI 494 3 (show _ = jI (W.r : Int) by rw [hr3]; exact M1.2.2.1.1 3 (by omega)) ?_
        refine ldI 494 0 (show _ = jI (W.t : Int) by rw [ht]; exact M1.2.2.1.1 0 (by omega)) ?_
        refine c_laysBy (T := 115) (am := W.am) none (zN ru W.am W.ra none W.r) W.r 0 W.t (n : Int) M1.pm L (by decide) r2 (by omega) (by omega) N (fun q t h q1 q2 => ?_) (fun de q => by simp at q) rfl (fun ρ p1 p2 p3 p4 => ?_) (ec := hu')
        · have := (N q t h q1 q2).2
          have b := zN_in (pol := none) (ra := W.ra) hr (fun j => (hW.2.2.2.2.2.2.2.1 j).1) (fun t h _ _ => (hW.2.2.2.2.2.2.2.2.1 t h).1) (fun de q => by simp at q) W.r t h q1 q2
          omega
        · have F2 : Qf σ ρ := F.tr ⟨fun a _ => by rw [p1], fun a qb => p2 a (fun z => qb (by rw [z]; decide)), fun k _ => by rw [p1]⟩
          have M2 := hM.fr F2
          have L2 : LY ρ ru W.am := L.fr (by rw [p1]) (by rw [p1]) (by rw [p1])
          have N2 : TN ρ 115 ru W.r (zN ru W.am W.ra none W.r) := fun q t h q1 q2 => by
            rw [p3 _ (fun t' h' z1 z2 z3 z => by
              have := ix4_inj (by omega) (by omega) (by omega) (by omega) (by omega) (by omega) z
              omega)]
            exact N q t h q1 q2
          refine c_hereJ (T := 115) (by decide) M2 h6 (p4 W.t W.h (by omega) (by omega) hht) ?_
          refine ldI 494 0 (show _ = jI (W.t : Int) by rw [ht]; exact M2.2.2.1.1 0 (by omega)) ?_
          refine ldI 13 W.t (L2.2 W.t (by omega)).1 ?_
          refine bcgt (zC ru W.am W.ra none W.r (n : Int) (zN ru W.am W.ra none W.r) W.t W.h) (zl ru W.am W.t) (fun z => ?_) (fun z => ?_) rfl (jI_L (by omega)) (by omega) (by omega)
          · refine ih ρ _ (by omega) (by rw [hu']; simp only [jlit, jneg, jadd, jsub]; congr 1) F2 L2 N2 ?_
            rw [he, es, if_neg]
            unfold fairP
            simp
            omega
          · have hq := hq ρ F2
            rw [he, es, if_pos (by unfold fairP; simp; omega), ← hu'] at hq
            exact hq
    exact key 1000 τ1 _ (by omega) rfl F1 L1 g4 rfl
  · rw [if_pos q] at hq
    exact hq _ f0
end MFa
section KFa
variable {l : Launch} {G : GT} {d : Nat} {σ : Mm} {Q : Po} {ru : Nat → Int} {W : Wk}
/-- reckoned, and the rows of new loans known -/
theorem k_leastR (hK : KQ σ ru W) (hq : ∀ τ, QK σ τ → CI τ ru → LC τ ru W.am → SC τ ru W.ra → NtA τ 31 ru W W.ra none → τ.1 31 5 = jI (W.f 2) → τ.1 31 6 = jI (W.r : Int) → (∀ j : Nat, j < W.r → ∀ t h : Nat, ru 9 + ru 10 ≤ t → (t : Int) < ru 1 → h ≤ t → τ.1 (57 + j) (nd t h) = jI (zN ru W.am W.ra none (j + 1) t h)) → Q (some (.ref 31)) τ) : MW l G (d + 5) mX8_reckon [.ref 15, .ref 2, .int 0, .int 0] σ Q := by
  obtain ⟨hr3, r2, ht, hh, hht, _, _, bc⟩ := hK.r
  refine k_reckonX 0 0 (W.f 2) W.r 31 0 none (Or.inl ⟨rfl, rfl, rfl, rfl⟩) (Or.inl rfl) (by omega) hK.2.1 hK.1.2.2.2.2 bc r2 (hK.1.1 2 (by omega)) (by rw [hr3]; exact hK.1.1 3 (by omega)) (fun τ m1 m2 m3 m4 m5 m6 m7 m8 m9 m10 => ?_)
  have e2 : τ.1 2 = σ.1 2 := m4 2 (by decide)
  have ea : amS τ 55 = W.am := (amS_eq (fun j q1 q2 => (m2.2.1 j q1 q2).trans (by rw [e2]))).trans hK.1.2.1
  have er : raS τ 55 0 = W.ra := (raS_eq (σ := σ) (a := 2) (s := 0) (fun j q1 q2 => by
    rw [m2.2.2.1 j q1 q2, e2, Int.add_zero, Int.add_zero]
    have b := bnd_in (σ.1 2 j).toInt
    rw [jI_T (by omega), bnd_id b.1 b.2])).trans hK.1.2.2.1
  have hL := (m1.2.2 m2.1).2.2.1
  rw [ea, er] at hL
  obtain ⟨k, k2, k3, k4⟩ := hL
  obtain ⟨k', z1, z2, z3, _⟩ := m10.2.2
  have ek : k' = k := by
    have := (jeq (by omega) (by omega)).mp (z3.symm.trans k3)
    omega
  rw [hK.1.2.2.1] at m6 m8
  rw [hK.1.2.1] at m5 m8
  refine hq τ (QK.re m4 m3) m1 m5 m6 m8 m10.1 m10.2.1 (fun j hj t h q1 q2 q3 => ?_)
  have := k4 j (by omega) t h q1 q2 q3
  rw [show 57 + 3 * 0 + j = 57 + j by omega] at this
  exact this
theorem k_fair (hK : KQ σ ru W) (hq : ∀ τ, QK σ τ → CI τ ru → Q (some (.int (jI (aFair ru W)))) τ) : MW l G (d + 6) mX11_fair [.ref 0] σ Q := by
  have h12 := hK.ru
  have hr := hK.2.1.1.1
  have hB := hK.2.2
  obtain ⟨hr3, r2, ht, hh, hht, _, h6t, bc⟩ := hK.r
  have ham : ∀ j, 0 ≤ W.am j := fun j => (hB.2.2.2.2.2.2.2.1 j).1
  unfold aFair at hq
  refine vX11_fair [(44, [0, 1, 2, 3])] 60 ?_
  refine k_over hK ?_
  refine brz _ (fun q => ?_) (fun q => ?_)
  · rw [if_neg q] at hq
    have h6 : W.f 6 = 0 := by omega
    have hT := h6t h6
    have hl := zl_in hr ham W.t
    refine k_leastR hK (fun τ1 g1 g2 g3 g4 g5 g6 g7 g8 => ?_)
    have K1 := hK.fr g1 g2
    refine ldI 115 0 (show _ = jI (W.t : Int) by rw [ht]; exact K1.1.1 0 (by omega)) ?_
    refine ldI 13 W.t (g3.2 W.t (by omega)).1 ?_
    have gi := gst_in (fairP ru W) 1000
    have mono : ∀ c c' : Int, c ≤ c' → fairP ru W c' = true → fairP ru W c = true := fun c c' h1 h2 => by
      unfold fairP at h2 ⊢
      simp at h2 ⊢
      have := zC_mono hr ham hK.ra h1 W.r (zN ru W.am W.ra none W.r) ((ru 1).toNat - W.t) W.t W.h (by omega)
      omega
    have key : ∀ (n : Nat) (τ : Mm) (f : Int) (u v : Int32), n ≤ 10 → u = jI f → v = jI ((2 ^ n / 2 : Nat) : Int) → (-1 ≤ f ∧ f ≤ 999) → f ≤ gst (fairP ru W) 1000 → gst (fairP ru W) 1000 < f + (2 ^ n : Nat) → QK σ τ → CI τ ru → LC τ ru W.am → SC τ ru W.ra → (∀ j : Nat, j < W.r → ∀ t h : Nat, ru 9 + ru 10 ≤ t → (t : Int) < ru 1 → h ≤ t → τ.1 (57 + j) (nd t h) = jI (zN ru W.am W.ra none (j + 1) t h)) → Wp l G (d + 6) mX11_fair 44 [(0, .ref 0), (1, .int (jI (zl ru W.am W.t))), (2, .int u), (3, .int v)] [] τ Q := by
      intro n
      induction n with
      | zero =>
        intro τ f u v hn hu hv hf i1 i2 F C _ _ _
        have i2 : gst (fairP ru W) 1000 < f + 1 := i2
        have hv : v = jI 0 := hv
        have hq := hq τ F C
        rw [show gst (fairP ru W) 1000 = f by omega, ← hu] at hq
        refine wX11_fair [] 60 ?_
        exact brle 0 0 (fun _ => hq) (fun z => by omega) (hx := hv) (hy := rfl)
      | succ n ih =>
        intro τ f u v hn hu hv hf i1 i2 F C L S R
        have hp : 2 ^ (n + 1) / 2 = 2 ^ n := by rw [Nat.pow_succ]; omega
        have hp2 : 2 ^ (n + 1) = 2 ^ n + 2 ^ n := by rw [Nat.pow_succ]; omega
        have hp3 : 1 ≤ 2 ^ n := Nat.one_le_two_pow
        have hp4 : 2 ^ n ≤ 2 ^ 9 := Nat.pow_le_pow_right (by omega) (by omega)
        have hp5 : (2 : Nat) ^ 9 = 512 := rfl
        rw [hp] at hv
        rw [hp2] at i2
        obtain ⟨P, hP⟩ : ∃ P : Nat, P = 2 ^ n := ⟨_, rfl⟩
        rw [← hP] at hv i2 hp3 hp4 ih
        have K2 := hK.fr F C
        have hdiv : v / 2 = jI ((P / 2 : Nat) : Int) := by
          rw [hv, show (2 : Int32) = jI 2 from rfl, jdiv (by omega) (by omega) (by omega) (by omega)]
          congr 1
        refine wX11_fair [(81, [0, 1, 2, 3]), (44, [0, 1, 2, 3])] 60 ?_
        have at81 : ∀ (ρ : Mm) (f' : Int) (u' : Int32), u' = jI f' → (-1 ≤ f' ∧ f' ≤ 999) → f' ≤ gst (fairP ru W) 1000 → gst (fairP ru W) 1000 < f' + P → QK σ ρ → CI ρ ru → LC ρ ru W.am → SC ρ ru W.ra → (∀ j : Nat, j < W.r → ∀ t h : Nat, ru 9 + ru 10 ≤ t → (t : Int) < ru 1 → h ≤ t → ρ.1 (57 + j) (nd t h) = jI (zN ru W.am W.ra none (j + 1) t h)) → Wp l G (d + 6) mX11_fair 81 [(0, .ref 0), (1, .int (jI (zl ru W.am W.t))), (2, .int u'), (3, .int v)] [] ρ Q := by
          intro ρ f' u' e1 e2 e3 e4 e5 e6 e7 e8 e9
          refine wX11_fair [(44, [0, 1, 2, 3])] 60 ?_
          refine And.intro (by decide) ?_
          exact ih ρ f' u' _ (by omega) e1 hdiv e2 e3 e4 e5 e6 e7 e8 e9
        refine brle (P : Int) 0 (fun z => by omega) (fun _ => ?_) (hx := hv) (hy := rfl)
        refine brlt 999 (f + P) (fun z => ?_) (fun z => ?_) (hx := rfl) (hy := by rw [hu, hv, jadd])
        · exact at81 τ f u hu hf i1 (by omega) F C L S R
        · refine ldI 115 3 (show _ = jI (W.r : Int) by rw [hr3]; exact K2.1.1 3 (by omega)) ?_
          refine k_costHere 0 (f + P) W.r none (zN ru W.am W.ra none W.r) K2 h6 L S (Or.inl ⟨rfl, rfl⟩) (by omega) r2 (fun z => by omega) (fun q0 t h q1 q2 q3 => ?_) (fun q0 t h q1 q2 => ?_) (fun ρ p1 p2 p3 p4 p5 p6 => ?_) (ex := by rw [hu, hv, jadd])
          · have := R (W.r - 1) (by omega) t h q1 q2 q3
            rw [show W.r - 1 + 1 = W.r by omega] at this
            exact this
          · have b := zN_in (pol := none) (ra := W.ra) hr ham (fun t h _ _ => hK.ra t h) (fun de q => by simp at q) W.r t h q1 q2
            omega
          · have hb := zC_b hr hB (f + P) (by omega) W.r r2 W.t W.h (by omega) hht
            have F2 := F.tr (QK.b19 p1 p2)
            have n57 : ∀ j, j < 2 → (57 + j) ∉ bS 19 ∧ 57 + j ≠ 19 := fun j hj => by
              have : j = 0 ∨ j = 1 := by omega
              rcases this with rfl | rfl <;> decide
            have R2 : ∀ j : Nat, j < W.r → ∀ t h : Nat, ru 9 + ru 10 ≤ t → (t : Int) < ru 1 → h ≤ t → ρ.1 (57 + j) (nd t h) = jI (zN ru W.am W.ra none (j + 1) t h) := fun j hj t h q1 q2 q3 => by
              rw [p1 (57 + j) (n57 j (by omega)).1 (n57 j (by omega)).2]
              exact R j hj t h q1 q2 q3
            have L2 : LC ρ ru W.am := L.fr (p1 16 (by decide) (by decide)) (p1 17 (by decide) (by decide)) (p1 18 (by decide) (by decide))
            have S2 : SC ρ ru W.ra := S.fr (p1 55 (by decide) (by decide))
            refine brlt (zl ru W.am W.t) (zC ru W.am W.ra none W.r (f + P) (zN ru W.am W.ra none W.r) W.t W.h) (fun z2 => ?_) (fun z2 => ?_) (hx := rfl) (hy := rfl)
            · refine at81 ρ f u hu hf i1 ?_ F2 p3 L2 S2 R2
              by_cases z3 : gst (fairP ru W) 1000 < f + P
              · exact z3
              · have ok := gst_ok (fairP ru W) 1000 (by omega)
                have := mono (f + P) _ (by omega) ok
                unfold fairP at this
                simp at this
                omega
            · refine at81 ρ (f + P) _ (by rw [hu, hv, jadd]) (by omega) ?_ (by omega) F2 p3 L2 S2 R2
              by_cases z3 : f + P ≤ gst (fairP ru W) 1000
              · exact z3
              · have := gst_no (fairP ru W) 1000 (f + P) (by omega) (by omega)
                unfold fairP at this
                simp at this
                omega
    exact key 10 τ1 (-1) _ _ (by omega) rfl rfl (by omega) (by omega) (by show _ < -1 + ((1024 : Nat) : Int); omega) g1 g2 g3 g4 g8
  · rw [if_pos q] at hq
    exact hq σ QK.rf hK.2.1
end KFa
