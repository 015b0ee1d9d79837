-- till: the class
section KTi
variable {l : Launch} {G : GT} {d : Nat} {σ : Mm} {Q : Po} {ru : Nat → Int} {W : Wk}
theorem k_leastZ (hK : KQ σ ru W) (hq : ∀ τ, QK σ τ → CI τ ru → LC τ ru W.am → SC τ ru W.ra → NtA τ 31 ru W W.ra none → τ.1 31 5 = jI (W.f 2) → τ.1 31 6 = jI (W.r : Int) → (∀ j : Nat, j < W.r → ∀ t h : Nat, ru 9 + ru 10 ≤ t → (t : Int) < ru 1 → h ≤ t → τ.1 (57 + j) (nd t h) = jI (zN ru W.am W.ra none (j + 1) t h)) → Ze τ 31 ru → Q (some (.ref 31)) τ) : MW l G (d + 5) mX8_reckon [.ref 15, .ref 2, .int 0, .int 0] σ Q := by
  obtain ⟨hr3, r2, ht, hh, hht, _, _, bc⟩ := hK.r
  refine k_reckonX 0 0 (W.f 2) W.r 31 0 none (Or.inl ⟨rfl, rfl, rfl, rfl⟩) (Or.inl rfl) (by omega) hK.2.1 hK.1.2.2.2.2 bc r2 (hK.1.1 2 (by omega)) (by rw [hr3]; exact hK.1.1 3 (by omega)) (fun τ m1 m2 m3 m4 m5 m6 m7 m8 m9 m10 => ?_)
  have e2 : τ.1 2 = σ.1 2 := m4 2 (by decide)
  have ea : amS τ 55 = W.am := (amS_eq (fun j q1 q2 => (m2.2.1 j q1 q2).trans (by rw [e2]))).trans hK.1.2.1
  have er : raS τ 55 0 = W.ra := (raS_eq (σ := σ) (a := 2) (s := 0) (fun j q1 q2 => by
    rw [m2.2.2.1 j q1 q2, e2, Int.add_zero, Int.add_zero]
    have b := bnd_in (σ.1 2 j).toInt
    rw [jI_T (by omega), bnd_id b.1 b.2])).trans hK.1.2.2.1
  have hL := (m1.2.2 m2.1).2.2.1
  rw [ea, er] at hL
  obtain ⟨k, k2, k3, k4⟩ := hL
  obtain ⟨k', z1, z2, z3, z4⟩ := m10.2.2
  have ek : k' = k := by
    have := (jeq (by omega) (by omega)).mp (z3.symm.trans k3)
    omega
  rw [hK.1.2.2.1] at m6 m8
  rw [hK.1.2.1] at m5 m8
  refine hq τ (QK.re m4 m3) m1 m5 m6 m8 m10.1 m10.2.1 (fun j hj t h q1 q2 q3 => ?_) z4
  have := k4 j (by omega) t h q1 q2 q3
  rw [show 57 + 3 * 0 + j = 57 + j by omega] at this
  exact this
theorem k_costHereZ {x y z : Int32} (cp : Int) (r : Nat) (N : Nat → Nat → Int) (hK : KQ σ ru W) (h6 : W.f 6 = 0) (hL : LC σ ru W.am) (hS : SC σ ru W.ra) (hc : 0 ≤ cp ∧ cp ≤ 999) (r2 : r ≤ 2)
    (hfr : 0 < r → ∀ t h : Nat, ru 9 + ru 10 ≤ t → (t : Int) < ru 1 → h ≤ t → σ.1 (57 + (r - 1)) (nd t h) = jI (N t h)) (hNb : 0 < r → ∀ t h : Nat, (t : Int) < ru 1 → h ≤ t → 0 ≤ N t h ∧ N t h ≤ 690000)
    (hq : ∀ τ : Mm, (∀ c, c ∉ bS 19 → c ≠ 19 → τ.1 c = σ.1 c) → τ.2 = σ.2 → CI τ ru → τ.1 19 5 = jI cp → (∀ t h : Nat, W.t ≤ t → (t : Int) ≤ ru 1 → W.h ≤ h → h ≤ W.h + (t - W.t) → τ.1 20 (nd t h) = jI (zC ru W.am W.ra none r cp N t h)) → Q (some (.int (jI (zC ru W.am W.ra none r cp N W.t W.h)))) τ)
    (ex : x = jI cp := by first | rfl | assumption | (simp only [jlit, jneg, jadd, jsub, jmul]; done) | (simp only [jlit, jneg, jadd, jsub, jmul]; congr 1 <;> omega) | (congr 1 <;> omega)) (ey : y = jI (r : Int) := by first | rfl | assumption | (simp only [jlit, jneg, jadd, jsub, jmul]; done) | (simp only [jlit, jneg, jadd, jsub, jmul]; congr 1 <;> omega) | (congr 1 <;> omega)) (ez : z = jI 0 := by first | rfl | assumption | (simp only [jlit, jneg, jadd, jsub, jmul]; done) | (simp only [jlit, jneg, jadd, jsub, jmul]; congr 1 <;> omega) | (congr 1 <;> omega)) : MW l G (d + 5) mX11_costHere [.ref 0, .int x, .int y, .int z] σ Q := by
  have h12 := hK.ru
  obtain ⟨hr3, _, ht, hh, hht, _, h6t, bc⟩ := hK.r
  have hT := h6t h6
  have hn := nd_lt2 (t := W.t) (h := W.h) (by omega) hht
  obtain ⟨σ1, s1⟩ : ∃ σ1, σ1 = uI (uI σ 19 5 x) 19 6 y := ⟨_, rfl⟩
  have c1 : ∀ c, c ≠ 19 → σ1.1 c = σ.1 c := fun c hc => by rw [s1, uI_n hc, uI_n hc]
  have K1 : Kr σ1 2 W := hK.1.fr (c1 2 (by decide))
  refine vX11_costHere [] 60 ?_
  refine ldI 115 0 (show _ = jI (W.t : Int) by rw [← s1, ht]; exact K1.1 0 (by omega)) ?_
  refine ldI 115 1 (show _ = jI (W.h : Int) by rw [← s1, hh]; exact K1.1 1 (by omega)) ?_
  rw [← s1]
  refine k_buildZ (o := 19) none N r W.t W.h cp 0 (Or.inl rfl) (hK.2.1.1.fr (c1 1 (by decide))) (hL.fr (c1 16 (by decide)) (c1 17 (by decide)) (c1 18 (by decide))) (hS.fr (c1 55 (by decide))) hT hht hc (Or.inl ⟨rfl, rfl⟩) (by rw [s1, uI_ne (Or.inr (by decide)), uI_at]; exact ex) (by rw [s1, uI_at]; exact ey) r2 (fun q => by omega) (fun q1 q2 t h p1 p2 p3 => ?_) (fun q => by omega) hNb (fun τ g1 g2 g3 g4 => ?_)
  · have e : frw 0 r = 57 + (r - 1) := by
      unfold frw
      rw [if_neg (by omega)]
    rw [e, c1 _ (by omega)]
    exact hfr q1 t h p1 p2 p3
  · have f1 : ∀ c, c ∉ bS 19 → c ≠ 19 → τ.1 c = σ.1 c := fun c q1 q2 => by rw [g1 c q1, c1 c q2]
    have C1 : CI τ ru := hK.2.1.frS (f1 1 (by decide) (by decide)) (fun c hc => f1 c (bS19_cS hc).1 (bS19_cS hc).2.1)
    have K2 : Kr τ 2 W := hK.1.fr (f1 2 (by decide) (by decide))
    refine k_hereD W.t W.h K2 ht.symm hh.symm (by omega) ?_
    refine ldI 91 (nd W.t W.h) (g3 W.t W.h (by omega) hT (by omega) (by omega)).2.2.2.2 ?_
    refine hq τ f1 (g2.trans (by rw [s1]; rfl)) C1 (by rw [g1 19 (by decide), s1, uI_ne (Or.inr (by decide)), uI_at]; exact ex) (fun t h q1 q2 q3 q4 => ?_)
    by_cases e : (t : Int) < ru 1
    · exact (g3 t h q1 e q3 q4).2.2.2.2
    · rw [zC_end (by omega)]
      have := g4 h q3 (by omega)
      rw [show (ru 1).toNat = t by omega] at this
      exact this
theorem k_weighedHere {o a : Nat} (cp : Int) (B : Nat → Nat → Int) (ho : o = 31 ∨ o = 19) (la : lenI a = 91) (hK : KQ σ ru W) (h6 : W.f 6 = 0) (hL : LC σ ru W.am) (hc : 0 ≤ cp ∧ cp ≤ 999) (h5 : σ.1 o 5 = jI cp) (h1 : σ.1 a (nd (W.t + 1) (W.h + 1)) = jI (B (W.t + 1) (W.h + 1))) (h2 : σ.1 a (nd (W.t + 1) W.h) = jI (B (W.t + 1) W.h)) (hq : Q (some (.int (jI (wgT ru W.am cp B W.t W.h)))) σ) : MW l G (d + 2) mX11_weighedHere [.ref 0, .ref o, .ref a] σ Q := by
  have h12 := hK.ru
  obtain ⟨hr3, _, ht, hh, hht, _, h6t, bc⟩ := hK.r
  have hT := h6t h6
  have hR := hK.2.1.1
  have hn := nd_lt (t := W.t + 1) (h := W.h + 1) (by omega) (by omega)
  rw [nd_up] at h1 hn
  rw [nd_dn] at h2
  have e : jI (wgT ru W.am cp B W.t W.h) = (100 : Int32) * jI (zd ru W.am cp (W.t + 1)) + jI (ru 6) * jI (B (W.t + 1) (W.h + 1)) + ((100 : Int32) - jI (ru 6)) * jI (B (W.t + 1) W.h) := by
    unfold wgT
    simp only [jlit, jadd, jsub, jmul]
    congr 1
    have z : ru 6 * zd ru W.am cp (W.t + 1) + (100 - ru 6) * zd ru W.am cp (W.t + 1) = 100 * zd ru W.am cp (W.t + 1) := by rw [← Int.add_mul]; congr 1; omega
    rw [Int.mul_add, Int.mul_add, ← z]
    omega
  rw [e] at hq
  rcases ho with rfl | rfl <;>
  · refine vX11_weighedHere [] 60 ?_
    refine ldI 115 0 (show _ = jI (W.t : Int) by rw [ht]; exact hK.1.1 0 (by omega)) ?_
    refine k_hereD W.t W.h hK.1 ht.symm hh.symm (by omega) ?_
    refine k_dueAt (W.t + 1) cp hR.1 hL (by omega) (by omega) hc ?_ (by simp only [jlit, jadd]; congr 1) h5
    exact k_weigh W.t (nd W.t W.h) hR la hn h1 h2 hq rfl rfl
theorem wg_b (hr : RB ru) (hB : WB ru W) (ht : (W.t : Int) < ru 1) (hht : W.h ≤ W.t) (cp : Int) (hc : 0 ≤ cp ∧ cp ≤ 999) (r : Nat) (r2 : r ≤ 2) : 0 ≤ wgT ru W.am cp (zC ru W.am W.ra none r cp (zN ru W.am W.ra none r)) W.t W.h ∧ wgT ru W.am cp (zC ru W.am W.ra none r cp (zN ru W.am W.ra none r)) W.t W.h ≤ 103000000 := by
  have ham : ∀ j, 0 ≤ W.am j := fun j => (hB.2.2.2.2.2.2.2.1 j).1
  have := wgT_in hr ham hc (zC_b hr hB cp hc r r2 (W.t + 1) (W.h + 1) (by omega) (by omega)) (zC_b hr hB cp hc r r2 (W.t + 1) W.h (by omega) (by omega))
  omega
/-- what is known in the midst of till -/
def TI (σ τ : Mm) (ru : Nat → Int) (W : Wk) : Prop := QK σ τ ∧ CI τ ru ∧ LC τ ru W.am ∧ SC τ ru W.ra ∧ (∀ j : Nat, j < W.r → ∀ t h : Nat, ru 9 + ru 10 ≤ t → (t : Int) < ru 1 → h ≤ t → τ.1 (57 + j) (nd t h) = jI (zN ru W.am W.ra none (j + 1) t h))
theorem TI.b19 {τ ρ : Mm} (h : TI σ τ ru W) (r2 : W.r ≤ 2) (p1 : ∀ c, c ∉ bS 19 → c ≠ 19 → ρ.1 c = τ.1 c) (p2 : ρ.2 = τ.2) (hC : CI ρ ru) : TI σ ρ ru W := by
  obtain ⟨F, _, L, S, R⟩ := h
  have n57 : ∀ j, j < 2 → (57 + j) ∉ bS 19 ∧ 57 + j ≠ 19 := fun j hj => by
    have : j = 0 ∨ j = 1 := by omega
    rcases this with rfl | rfl <;> decide
  refine ⟨F.tr (QK.b19 p1 p2), hC, L.fr (p1 16 (by decide) (by decide)) (p1 17 (by decide) (by decide)) (p1 18 (by decide) (by decide)), S.fr (p1 55 (by decide) (by decide)), fun j hj t h q1 q2 q3 => ?_⟩
  rw [p1 (57 + j) (n57 j (by omega)).1 (n57 j (by omega)).2]
  exact R j hj t h q1 q2 q3
theorem k_leavesAt {τ : Mm} {x y z : Int32} (n : Int) (c b : Bool) (hn : 0 ≤ n ∧ n ≤ 999) (hK : KQ σ ru W) (h6 : W.f 6 = 0) (h10 : ru 10 = 0) (hm : ru 9 ≤ (W.t : Int) ∧ (W.t : Int) + ru 10 < ru 1) (hI : TI σ τ ru W) (hb : b = if c = true then tillP ru W n else tillU ru W n)
    (hq : ∀ ρ : Mm, TI σ ρ ru W → Q (some (.int (if b = true then 1 else 0))) ρ) (ex : x = jI n := by first | rfl | assumption | (simp only [jlit, jneg, jadd, jsub, jmul]; done) | (simp only [jlit, jneg, jadd, jsub, jmul]; congr 1 <;> omega) | (congr 1 <;> omega)) (ey : y = jI (whT ru W) := by first | rfl | assumption | (simp only [jlit, jneg, jadd, jsub, jmul]; done) | (simp only [jlit, jneg, jadd, jsub, jmul]; congr 1 <;> omega) | (congr 1 <;> omega)) (ez : z = if c = true then 1 else 0) : MW l G (d + 6) mX11_leavesAt [.ref 0, .int x, .int y, .int z] τ Q := by
  have h12 := hK.ru
  have hr := hK.2.1.1.1
  have hr' := hr
  unfold RB at hr'
  have hB := hK.2.2
  obtain ⟨hr3, r2, ht, hh, hht, _, h6t, bc⟩ := hK.r
  have hT := h6t h6
  have ham : ∀ j, 0 ≤ W.am j := fun j => (hB.2.2.2.2.2.2.2.1 j).1
  have hpr := zpr_in hr ham W.t
  have hl := zl_in hr ham W.t
  have hcp : 0 ≤ cpT ru n ∧ cpT ru n ≤ 999 := by unfold cpT; omega
  have bh : 0 ≤ whT ru W ∧ whT ru W ≤ 103000000 := wg_b hr hB hT hht (W.f 2) bc W.r r2
  have bf : 0 ≤ wfT ru W (W.r - 1) n ∧ wfT ru W (W.r - 1) n ≤ 103000000 := wg_b hr hB hT hht (cpT ru n) hcp (W.r - 1) (by omega)
  have hP := tillP_0 hr hB r2 h10 hm hn
  have hU : tillU ru W n = true ↔ (zpr ru W.am W.t * (1000 + n) < whT ru W * 10 ∨ (0 < W.r ∧ (zpr ru W.am W.t - zl ru W.am W.t + ru 13) * (1000 + n) + wfT ru W (W.r - 1) n * 10 < whT ru W * 10)) := by unfold tillU; rw [decide_eq_true_eq]
  have K1 : KQ τ ru W := hK.fr hI.1 hI.2.1
  have dH : jI (whT ru W) * 10 / (1000 + x) = jI (whT ru W * 10 / (1000 + n)) := by
    rw [ex, show (1000 : Int32) = jI 1000 from rfl, show (10 : Int32) = jI 10 from rfl, jadd, jmul, jdiv (by omega) (by omega) (by omega) (by omega)]
  have dF : jI (wfT ru W (W.r - 1) n) * 10 / (1000 + x) = jI (wfT ru W (W.r - 1) n * 10 / (1000 + n)) := by
    rw [ex, show (1000 : Int32) = jI 1000 from rfl, show (10 : Int32) = jI 10 from rfl, jadd, jmul, jdiv (by omega) (by omega) (by omega) (by omega)]
  have dv : ∀ v : Int, 0 ≤ v → v ≤ 1030000000 → 0 ≤ v / (1000 + n) ∧ v / (1000 + n) ≤ 1030000000 := fun v v0 v1 => ⟨Int.ediv_nonneg v0 (by omega), Int.le_trans (Int.ediv_le_self _ v0) v1⟩
  have eH := dv (whT ru W * 10) (by omega) (by omega)
  have eF := dv (wfT ru W (W.r - 1) n * 10) (by omega) (by omega)
  have m1 : 0 ≤ zpr ru W.am W.t * (1000 + n) ∧ zpr ru W.am W.t * (1000 + n) ≤ 20000 * 1999 := mul_le_c (by omega) (by omega) (by omega) (by omega)
  have m2 : 0 ≤ (zpr ru W.am W.t - zl ru W.am W.t + ru 13) * (1000 + n) ∧ (zpr ru W.am W.t - zl ru W.am W.t + ru 13) * (1000 + n) ≤ 20999 * 1999 := mul_le_c (by omega) (by omega) (by omega) (by omega)
  have nz : ¬ (1000 + x = 0) := by
    rw [ex, show (1000 : Int32) = jI 1000 from rfl, show (0 : Int32) = jI 0 from rfl, jadd, jeq (by omega) (by omega)]
    omega
  have yes : b = true → ∀ ρ : Mm, TI σ ρ ru W → Q (some (.int 1)) ρ := fun e ρ h => by have := hq ρ h; rw [if_pos e] at this; exact this
  have no : ¬ b = true → ∀ ρ : Mm, TI σ ρ ru W → Q (some (.int 0)) ρ := fun e ρ h => by have := hq ρ h; rw [if_neg e] at this; exact this
  -- the second question
  have sec : (b = true ↔ (0 < W.r ∧ (if c = true then zpr ru W.am W.t - zl ru W.am W.t + ru 13 + wfT ru W (W.r - 1) n * 10 / (1000 + n) < whT ru W * 10 / (1000 + n) else (zpr ru W.am W.t - zl ru W.am W.t + ru 13) * (1000 + n) + wfT ru W (W.r - 1) n * 10 < whT ru W * 10))) → Wp l G (d + 6) mX11_leavesAt 67 [(0, .ref 0), (1, .int x), (2, .int y), (3, .int z), (4, .int (jI (W.t : Int))), (5, .int (1000 + x))] [] τ Q := by
    intro hb2
    refine wX11_leavesAt [] 120 ?_
    refine ldI 115 3 (show _ = jI (W.r : Int) by rw [hr3]; exact K1.1.1 3 (by omega)) ?_
    refine brlt 0 (W.r : Int) (fun q0 => ?_) (fun q0 => ?_) (hx := rfl) (hy := rfl)
    · refine k_couponAt n K1.2.1.1 (by omega) ?_ ex
      refine ldI 115 3 (show _ = jI (W.r : Int) by rw [hr3]; exact K1.1.1 3 (by omega)) ?_
      refine k_costHereZ (cpT ru n) (W.r - 1) (zN ru W.am W.ra none (W.r - 1)) K1 h6 hI.2.2.1 hI.2.2.2.1 hcp (by omega) (fun z0 t h q1 q2 q3 => ?_) (fun z0 t h q1 q2 => ?_) (fun ρ p1 p2 p3 p4 p5 => ?_) rfl (by simp only [jlit, jsub]; congr 1; omega) rfl
      · have := hI.2.2.2.2 (W.r - 1 - 1) (by omega) t h q1 q2 q3
        rw [show W.r - 1 - 1 + 1 = W.r - 1 by omega] at this
        exact this
      · have b := zN_in (pol := none) (ra := W.ra) hr ham (fun t h _ _ => hK.ra t h) (fun de q => by simp at q) (W.r - 1) t h q1 q2
        omega
      · have I2 := hI.b19 r2 p1 p2 p3
        have K2 : KQ ρ ru W := hK.fr I2.1 I2.2.1
        refine k_weighedHere (o := 19) (a := 20) (cpT ru n) (zC ru W.am W.ra none ((W.r - 1 : Nat) : Int) (cpT ru n) (zN ru W.am W.ra none (W.r - 1))) (Or.inr rfl) (by decide) K2 h6 I2.2.2.1 hcp p4 (p5 (W.t + 1) (W.h + 1) (by omega) (by omega) (by omega) (by omega)) (p5 (W.t + 1) W.h (by omega) (by omega) (by omega) (by omega)) ?_
        refine k_renewalAt W.t K2.2.1.1 I2.2.2.1 (by omega) ?_ rfl
        cases c with
        | true =>
          have ez : z = 1 := ez
          subst ez
          rw [if_pos rfl] at hb2
          refine And.intro (fun q => absurd q (by decide)) (fun _ => ?_)
          refine And.intro nz ?_
          refine And.intro nz ?_
          refine brle (whT ru W * 10 / (1000 + n)) (zpr ru W.am W.t - zl ru W.am W.t + ru 13 + wfT ru W (W.r - 1) n * 10 / (1000 + n)) (fun q => ?_) (fun q => ?_) (hx := by rw [ey]; exact dH) (hy := by show jI (zpr ru W.am W.t - zl ru W.am W.t + ru 13) + jI (wfT ru W (W.r - 1) n) * 10 / (1000 + x) = _; rw [dF, jadd])
          · refine And.intro (Or.inl rfl) ?_
            exact no (fun k => by have := (hb2.1 k).2; omega) ρ I2
          · refine And.intro (Or.inr rfl) ?_
            exact yes (hb2.2 ⟨by omega, q⟩) ρ I2
        | false =>
          have ez : z = 0 := ez
          subst ez
          rw [if_neg (by decide)] at hb2
          refine And.intro (fun _ => ?_) (fun q => absurd rfl q)
          refine brle (whT ru W * 10) ((zpr ru W.am W.t - zl ru W.am W.t + ru 13) * (1000 + n) + wfT ru W (W.r - 1) n * 10) (fun q => ?_) (fun q => ?_) (hx := by rw [ey, show (10 : Int32) = jI 10 from rfl, jmul]) (hy := by show jI (zpr ru W.am W.t - zl ru W.am W.t + ru 13) * (1000 + x) + jI (wfT ru W (W.r - 1) n) * 10 = _; rw [ex, show (10 : Int32) = jI 10 from rfl, show (1000 : Int32) = jI 1000 from rfl, jadd, jmul, jmul, jadd])
          · refine And.intro (Or.inl rfl) ?_
            exact no (fun k => by have := (hb2.1 k).2; omega) ρ I2
          · refine And.intro (Or.inr rfl) ?_
            exact yes (hb2.2 ⟨by omega, q⟩) ρ I2
    · refine And.intro (Or.inl rfl) ?_
      exact no (fun k => by have := (hb2.1 k).1; omega) τ hI
  refine vX11_leavesAt [(67, [0, 1, 2, 3, 4, 5])] 80 ?_
  refine ldI 115 0 (show _ = jI (W.t : Int) by rw [ht]; exact K1.1.1 0 (by omega)) ?_
  refine brlt 0 (1000 + n) (fun _ => ?_) (fun q => by omega) (hx := rfl) (hy := by rw [ex, show (1000 : Int32) = jI 1000 from rfl, jadd])
  refine ldI 13 W.t (hI.2.2.1.2 W.t (by omega)).2.2 ?_
  cases c with
  | true =>
    have ez' : z = 1 := ez
    rw [if_pos rfl] at hb
    refine breq 1 0 (fun q => by omega) (fun _ => ?_) (hx := ez') (hy := rfl)
    refine And.intro nz ?_
    refine brle (whT ru W * 10 / (1000 + n)) (zpr ru W.am W.t) (fun q => ?_) (fun q => ?_) (hx := by rw [ey]; exact dH) (hy := rfl)
    · refine sec ?_
      rw [if_pos rfl, hb, hP]
      exact ⟨fun k => by rcases k with k | k; omega; exact k, fun k => Or.inr k⟩
    · refine And.intro (Or.inr rfl) ?_
      exact yes (by rw [hb, hP]; exact Or.inl q) τ hI
  | false =>
    have ez' : z = 0 := ez
    rw [if_neg (by decide)] at hb
    refine breq 0 0 (fun _ => ?_) (fun q => absurd rfl q) (hx := ez') (hy := rfl)
    refine brle (whT ru W * 10) (zpr ru W.am W.t * (1000 + n)) (fun q => ?_) (fun q => ?_) (hx := by rw [ey, show (10 : Int32) = jI 10 from rfl, jmul]) (hy := by rw [ex, show (1000 : Int32) = jI 1000 from rfl, jadd, jmul])
    · refine sec ?_
      rw [if_neg (by decide), hb, hU]
      exact ⟨fun k => by rcases k with k | k; omega; exact k, fun k => Or.inr k⟩
    · refine And.intro (Or.inr rfl) ?_
      exact yes (by rw [hb, hU]; exact Or.inl q) τ hI
theorem k_tillAtOnce {τ : Mm} {x : Int32} (hK : KQ σ ru W) (h6 : W.f 6 = 0) (h10 : ru 10 = 0) (hm : ru 9 ≤ (W.t : Int) ∧ (W.t : Int) + ru 10 < ru 1) (hI : TI σ τ ru W)
    (hq : ∀ ρ : Mm, TI σ ρ ru W → Q (some (.int (jI (gst (tillP ru W) 1000)))) ρ) (ex : x = jI (whT ru W) := by first | rfl | assumption | (simp only [jlit, jneg, jadd, jsub, jmul]; done) | (simp only [jlit, jneg, jadd, jsub, jmul]; congr 1 <;> omega) | (congr 1 <;> omega)) : MW l G (d + 7) mX11_tillAtOnce [.ref 0, .int x] τ Q := by
  have hr := hK.2.1.1.1
  have hB := hK.2.2
  obtain ⟨hr3, r2, ht, hh, hht, _, h6t, bc⟩ := hK.r
  have hT := h6t h6
  have gi := gst_in (tillU ru W) 1000
  have gp := gst_in (tillP ru W) 1000
  have sub := gst_sub (p := tillP ru W) (u := tillU ru W) 1000 (fun x q1 q2 q3 => tillP_U hr hB r2 h10 hm ⟨q1, by omega⟩ q3)
  -- downward, exactly
  have down : ∀ (n : Nat) (ρ : Mm) (u : Int32), n ≤ 1000 → u = jI ((n : Int) - 1) → TI σ ρ ru W → gst (tillP ru W) 1000 = gst (tillP ru W) n → Wp l G (d + 7) mX11_tillAtOnce 44 [(0, .ref 0), (1, .int x), (3, .int u)] [] ρ Q := by
    intro n
    induction n with
    | zero =>
      intro ρ u hn hu hIr he
      have he : gst (tillP ru W) 1000 = -1 := he
      have hq := hq ρ hIr
      rw [he] at hq
      refine wX11_tillAtOnce [] 40 ?_
      exact brlt ((0 : Nat) - 1 : Int) 0 (fun _ => hq) (fun z => by omega) (hx := hu) (hy := rfl)
    | succ n ih =>
      intro ρ u hn hu hIr he
      have es : gst (tillP ru W) (n + 1) = if tillP ru W n then (n : Int) else gst (tillP ru W) n := rfl
      have hu' : u = jI (n : Int) := by rw [hu]; congr 1; omega
      refine wX11_tillAtOnce [(44, [0, 1, 3])] 40 ?_
      refine brlt (n : Int) 0 (fun z => by omega) (fun _ => ?_) (hx := hu') (hy := rfl)
      refine k_leavesAt (n : Int) true (tillP ru W n) (by omega) hK h6 h10 hm hIr (by rw [if_pos rfl]) (fun π hIp => ?_) hu' ex rfl
      refine brz _ (fun z => ?_) (fun z => ?_)
      · exact ih π _ (by omega) (by rw [hu']; simp only [jlit, jneg, jadd, jsub]; congr 1) hIp (by rw [he, es, if_neg z])
      · have hq := hq π hIp
        rw [he, es, if_pos z, ← hu'] at hq
        exact hq
  -- by halves, without the cuts
  have key : ∀ (n : Nat) (ρ : Mm) (f : Int) (u v : Int32), n ≤ 10 → u = jI f → v = jI ((2 ^ n / 2 : Nat) : Int) → (-1 ≤ f ∧ f ≤ 999) → f ≤ gst (tillU ru W) 1000 → gst (tillU ru W) 1000 < f + (2 ^ n : Nat) → TI σ ρ ru W → Wp l G (d + 7) mX11_tillAtOnce 6 [(0, .ref 0), (1, .int x), (2, .int u), (3, .int v)] [] ρ Q := by
    intro n
    induction n with
    | zero =>
      intro ρ f u v hn hu hv hf i1 i2 hIr
      have i2 : gst (tillU ru W) 1000 < f + 1 := i2
      have hv : v = jI 0 := hv
      have ef : gst (tillU ru W) 1000 = f := by omega
      rw [ef] at sub
      refine wX11_tillAtOnce [(44, [0, 1, 3])] 40 ?_
      refine brle 0 0 (fun _ => ?_) (fun z => by omega) (hx := hv) (hy := rfl)
      refine down (f.toNat + if f = -1 then 0 else 1) ρ u ?_ ?_ hIr sub
      · split <;> omega
      · rw [hu]
        congr 1
        split <;> omega
    | succ n ih =>
      intro ρ f u v hn hu hv hf i1 i2 hIr
      have hp : 2 ^ (n + 1) / 2 = 2 ^ n := by rw [Nat.pow_succ]; omega
      have hp2 : 2 ^ (n + 1) = 2 ^ n + 2 ^ n := by rw [Nat.pow_succ]; omega
      have hp3 : 1 ≤ 2 ^ n := Nat.one_le_two_pow
      have hp4 : 2 ^ n ≤ 2 ^ 9 := Nat.pow_le_pow_right (by omega) (by omega)
      have hp5 : (2 : Nat) ^ 9 = 512 := rfl
      rw [hp] at hv
      rw [hp2] at i2
      obtain ⟨P, hP⟩ : ∃ P : Nat, P = 2 ^ n := ⟨_, rfl⟩
      rw [← hP] at hv i2 hp3 hp4 ih
      have hdiv : v / 2 = jI ((P / 2 : Nat) : Int) := by
        rw [hv, show (2 : Int32) = jI 2 from rfl, jdiv (by omega) (by omega) (by omega) (by omega)]
        congr 1
      have at35 : ∀ (π : Mm) (f' : Int) (u' : Int32), u' = jI f' → (-1 ≤ f' ∧ f' ≤ 999) → f' ≤ gst (tillU ru W) 1000 → gst (tillU ru W) 1000 < f' + P → TI σ π ru W → Wp l G (d + 7) mX11_tillAtOnce 35 [(0, .ref 0), (1, .int x), (2, .int u'), (3, .int v)] [] π Q := by
        intro π f' u' e1 e2 e3 e4 e5
        refine wX11_tillAtOnce [(6, [0, 1, 2, 3])] 40 ?_
        refine And.intro (by decide) ?_
        exact ih π f' u' _ (by omega) e1 hdiv e2 e3 e4 e5
      refine wX11_tillAtOnce [(35, [0, 1, 2, 3])] 40 ?_
      refine brle (P : Int) 0 (fun z => by omega) (fun _ => ?_) (hx := hv) (hy := rfl)
      refine brlt 999 (f + P) (fun z => ?_) (fun z => ?_) (hx := rfl) (hy := by rw [hu, hv, jadd])
      · exact at35 ρ f u hu hf i1 (by omega) hIr
      · refine k_leavesAt (f + P) false (tillU ru W (f + P)) (by omega) hK h6 h10 hm hIr (by rw [if_neg (by decide)]) (fun π hIp => ?_) (by rw [hu, hv, jadd]) ex rfl
        refine brz _ (fun z2 => ?_) (fun z2 => ?_)
        · refine at35 π f u hu hf i1 ?_ hIp
          by_cases z3 : gst (tillU ru W) 1000 < f + P
          · exact z3
          · have ok := gst_ok (tillU ru W) 1000 (by omega)
            exact absurd (tillU_mono hr hB hT (by omega) (by omega) (by omega) ok) z2
        · refine at35 π (f + P) _ (by rw [hu, hv, jadd]) (by omega) ?_ (by omega) hIp
          by_cases z3 : f + P ≤ gst (tillU ru W) 1000
          · exact z3
          · have := gst_no (tillU ru W) 1000 (f + P) (by omega) (by omega)
            rw [this] at z2
            exact absurd z2 (by decide)
  refine vX11_tillAtOnce [(6, [0, 1, 2, 3])] 40 ?_
  exact key 10 τ (-1) _ _ (by omega) rfl rfl (by omega) (by omega) (by show _ < -1 + ((1024 : Nat) : Int); omega) hI
end KTi
