-- spread: the reference
section ESp
variable {ru : Nat → Int} {W : Wk}
theorem eK_US (hr : RB ru) (hW : WB ru W) : ∀ (n : Nat) (V : Wk) (q : Nat), US ru W V → US ru W (eK ru n V q)
  | 0, V, q, h => h
  | n + 1, V, q, h => by
    show US ru W (if V.f 6 = 0 then eK ru n (wkA ru 3 (wPass ru V ((q % 2 : Nat) : Int))) (q / 2) else V)
    split
    · next z => exact eK_US hr hW n _ _ (US_act hr hW 3 _ (US_pass hr hW h z _ (by omega)))
    · exact h
theorem pK_in (hr : RB ru) (hW : WB ru W) (h6 : W.f 6 = 0) (q : Nat) : 0 ≤ pK ru W q ∧ pK ru W q < 163840 := US_7 hr hW (eK_US hr hW _ _ q (US_act hr hW 3 _ (US_0 hr hW h6)))
theorem yK_in (hr : RB ru) (hW : WB ru W) (h6 : W.f 6 = 0) (q : Nat) : 0 ≤ yK ru W q ∧ yK ru W q ≤ 12 := by
  have := (eK_US hr hW ((ru 1).toNat - W.t) _ q (US_act hr hW 3 _ (US_0 hr hW h6))).1.1
  unfold RB at hr
  unfold yK
  omega
theorem nK_in (hr : RB ru) : 1 ≤ nK ru W ∧ nK ru W ≤ 4096 := by
  unfold RB at hr
  have h1 : 0 < 2 ^ ((ru 1).toNat - W.t) := Nat.pow_pos (by omega)
  have h2 : 2 ^ ((ru 1).toNat - W.t) ≤ 2 ^ 12 := Nat.pow_le_pow_right (by omega) (by omega)
  unfold nK
  omega
theorem lo_eq {p : Nat → Int} (hp : ∀ q, 0 ≤ p q ∧ p q < 163840) : ∀ m, 1 ≤ m → gF min 2147483647 p m = gF min 163840 p m
  | 0, h => by omega
  | 1, _ => by
    have := hp 0
    show min 2147483647 (p 0) = min 163840 (p 0)
    omega
  | m + 2, _ => by
    show min (gF min 2147483647 p (m + 1)) (p (m + 1)) = min (gF min 163840 p (m + 1)) (p (m + 1))
    rw [lo_eq hp (m + 1) (by omega)]
theorem lo_in {p : Nat → Int} (hp : ∀ q, 0 ≤ p q ∧ p q < 163840) : ∀ m, 0 ≤ gF min 2147483647 p m ∧ gF min 2147483647 p m ≤ 2147483647
  | 0 => by show (0 : Int) ≤ 2147483647 ∧ (2147483647 : Int) ≤ 2147483647; omega
  | m + 1 => by
    have := hp m
    have := lo_in hp m
    show 0 ≤ min (gF min 2147483647 p m) (p m) ∧ min (gF min 2147483647 p m) (p m) ≤ 2147483647
    omega
theorem hi_in {p : Nat → Int} (hp : ∀ q, 0 ≤ p q ∧ p q < 163840) : ∀ m, 0 ≤ gF max 0 p m ∧ gF max 0 p m < 163840
  | 0 => by show (0 : Int) ≤ 0 ∧ (0 : Int) < 163840; omega
  | m + 1 => by
    have := hp m
    have := hi_in hp m
    show 0 ≤ max (gF max 0 p m) (p m) ∧ max (gF max 0 p m) (p m) < 163840
    omega
end ESp
section MSp
variable {l : Launch} {G : GT} {d : Nat} {σ : Mm} {Q : Po} {ru : Nat → Int} {W : Wk}
theorem c_isCalled (hE : ME σ ru) (y : Int) (h0 : σ.1 118 0 = jI y) (hy : 0 ≤ y ∧ y ≤ 12) (hq : Q (some (.int (if y < ru 1 then 1 else 0))) σ) : MW l G d mX12_isCalled [.ref 98] σ Q := by
  have hr := hE.1
  unfold RB at hr
  refine vX12_isCalled [] 40 ?_
  refine ldI 494 0 h0 ?_ (hi := rfl)
  refine ldI 14 1 (hE.2 1 (by omega)) ?_ (hi := rfl)
  refine brle (ru 1) y (fun q => ?_) (fun q => ?_) (hx := rfl) (hy := rfl)
  · rw [if_neg (by omega)] at hq
    exact And.intro (Or.inl rfl) hq
  · rw [if_pos q] at hq
    exact And.intro (Or.inr rfl) hq
def FS (σ τ : Mm) : Prop := (∀ a, a ≠ 98 → a ≠ 118 → a ≠ 119 → τ.1 a = σ.1 a) ∧ τ.2 = σ.2 ∧ (∀ k, k ≠ 33 → k ≠ 38 → τ.1 98 k = σ.1 98 k)
theorem FS.q {σ τ : Mm} (h : FS σ τ) : Qf σ τ := ⟨fun a qa => h.1 a (fun z => qa (by rw [z]; decide)) (fun z => qa (by rw [z]; decide)) (fun z => qa (by rw [z]; decide)), fun a _ => by rw [h.2.1], fun k qk => h.2.2 k (fun z => qk (by rw [z]; decide)) (fun z => qk (by rw [z]; decide))⟩
theorem c_spread {y : Int32} {M : Nat} (w : Int) (hMM : M = 163840) (hM : RM σ ru W) (rw' : R31 w) (hq : ∀ τ, Qf σ τ → Q (some (.int (jI (aSpread ru W M w)))) τ) (ey : y = jI w := by first | rfl | assumption | (simp only [jlit, jneg, jadd, jsub, jmul]; done) | (simp only [jlit, jneg, jadd, jsub, jmul]; congr 1 <;> omega) | (congr 1 <;> omega)) : MW l G (d + 11) mX12_spread [.ref 98, .int y] σ Q := by
  have f0 : Qf σ (uI σ 98 0 0) := Qf.rf.u8 (by decide)
  have M0 := hM.fr f0
  have hr := hM.2.1.1
  have hr' := hr
  unfold RB at hr'
  have hW := hM.2.2.2.2
  have hv := V_t hW
  unfold aSpread at hq
  refine vX12_spread [(66, [0, 1, 2, 3, 4, 5, 6, 7])] 80 ?_
  refine c_over M0 ?_
  refine brz _ (fun q => ?_) (fun q => ?_)
  · have h6 : W.f 6 = 0 := by have := hM.over; omega
    have hT := hW.2.2.2.2.2.1 h6
    refine c_isIn w 0 4 ?_ (by rw [ey, jI_L rw']) rfl rfl
    refine brz _ (fun q2 => ?_) (fun q2 => ?_)
    · rw [if_pos (Or.inr q2)] at hq
      exact hq _ f0
    · rw [if_neg (by omega)] at hq
      refine c_laysNowY M0 (fun τ1 F1 L1 g2 g3 g4 => ?_)
      have F1 := f0.tr F1
      have M1 := hM.fr F1
      have pin := pK_in hr hW h6
      have yin := yK_in hr hW h6
      have nin := nK_in (W := W) hr
      have key : ∀ (m k : Nat) (τ : Mm) (nn c a lo hi u : Int32), k + m = nK ru W → nn = jI (nK ru W : Int) → u = jI (k : Int) → c = jI (gF (fun a b : Int => a + b) 0 (fun q => if yK ru W q < ru 1 then 1 else 0) k) → a = jI (gF (fun a b : Int => a + b) 0 (pK ru W) k) → lo = jI (gF min 2147483647 (pK ru W) k) → hi = jI (gF max 0 (pK ru W) k) → FS τ1 τ → (∀ j, j < k → τ.1 119 j = jI (pK ru W j)) → Wp l G (d + 11) mX12_spread 66 [(0, .ref 98), (1, .int y), (2, .int nn), (3, .int c), (4, .int a), (5, .int lo), (6, .int hi), (7, .int u)] [] τ Q := by
        intro m
        induction m with
        | zero =>
          intro k τ nn c a lo hi u hk hnn hu hc ha hlo hhi F hS
          have ek : k = nK ru W := by omega
          have hq' := hq
          have hq := hq τ (F1.tr F.q)
          refine wX12_spread [] 60 ?_
          refine brle (nK ru W : Int) (k : Int) (fun _ => ?_) (fun z => by omega) (hx := hnn) (hy := hu)
          refine breq w 0 (fun e0 => ?_) (fun e0 => ?_) (hx := ey) (hy := rfl)
          · rw [if_pos e0, ← lo_eq pin _ nin.1, ← ek, ← hlo] at hq
            exact hq
          · rw [if_neg e0] at hq
            refine breq w 1 (fun e1 => ?_) (fun e1 => ?_) (hx := ey) (hy := rfl)
            · rw [if_pos e1, ← ek, ← hhi] at hq
              exact hq
            · rw [if_neg e1] at hq
              refine breq w 2 (fun e2 => ?_) (fun e2 => ?_) (hx := ey) (hy := rfl)
              · rw [if_pos e2, ← ek, ← hc] at hq
                exact hq
              · rw [if_neg e2] at hq
                refine breq w 3 (fun e3 => ?_) (fun e3 => ?_) (hx := ey) (hy := rfl)
                · have ev : ∀ j, j < nK ru W → (τ.1 119 j).toInt = pK ru W j := fun j hj => by
                    have := pin j
                    rw [hS j (by omega), jI_T (by omega)]
                  refine c_unlike (M := M) (nK ru W) hMM nin.2 (fun j hj => by rw [ev j hj]; exact pin j) (fun θ t1 t2 => ?_) hnn
                  have hq := hq' θ (F1.tr (F.q.tr ⟨fun b qb => t1 b (fun z => qb (by rw [z]; decide)), fun b _ => by rw [t2], fun j _ => by rw [t1 98 (by decide)]⟩))
                  rw [if_neg e0, if_neg e1, if_neg e2, if_pos e3] at hq
                  rw [cntB_same (S := vsB (pK ru W) (nK ru W)) M (fun v _ => ?_)]
                  · exact hq
                  · exact gF_congr _ (fun j hj => by show decide ((v : Int) = (τ.1 119 j).toInt) = _; rw [ev j hj])
                · rw [if_neg e3, ← ek, ← ha] at hq
                  exact hq
        | succ m ih =>
          intro k τ nn c a lo hi u hk hnn hu hc ha hlo hhi F hS
          have M2 := M1.fr F.q
          have pk := pin k
          have lin := lo_in pin k
          have hin := hi_in pin k
          -- at 146
          have c146 : ∀ (ρ : Mm) (a' lo' hi' : Int32), a' = jI (gF (fun a b : Int => a + b) 0 (pK ru W) (k + 1)) → lo' = jI (gF min 2147483647 (pK ru W) (k + 1)) → hi' = jI (gF max 0 (pK ru W) (k + 1)) → FS τ1 ρ → (∀ j, j < k + 1 → ρ.1 119 j = jI (pK ru W j)) → ρ.1 118 0 = jI (yK ru W k) → Wp l G (d + 11) mX12_spread 146 [(0, .ref 98), (1, .int y), (2, .int nn), (3, .int c), (4, .int a'), (5, .int lo'), (6, .int hi'), (7, .int u)] [] ρ Q := by
            intro ρ a' lo' hi' ha' hlo' hhi' F' hS' h0
            refine wX12_spread [(66, [0, 1, 2, 3, 4, 5, 6, 7])] 40 ?_
            refine c_isCalled (M1.fr F'.q).2.1 (yK ru W k) h0 (yin k) ?_
            refine brz _ (fun e => ?_) (fun e => ?_)
            · refine ih (k + 1) ρ _ _ _ _ _ _ (by omega) hnn (by rw [hu]; simp only [jlit, jadd]; congr 1) ?_ ha' hlo' hhi' F' hS'
              show c + 0 = jI (gF (fun a b : Int => a + b) 0 (fun q => if yK ru W q < ru 1 then 1 else 0) k + (if yK ru W k < ru 1 then 1 else 0))
              rw [if_neg e, hc]
              simp only [jlit, jadd]
            · refine ih (k + 1) ρ _ _ _ _ _ _ (by omega) hnn (by rw [hu]; simp only [jlit, jadd]; congr 1) ?_ ha' hlo' hhi' F' hS'
              show c + 1 = jI (gF (fun a b : Int => a + b) 0 (fun q => if yK ru W q < ru 1 then 1 else 0) k + (if yK ru W k < ru 1 then 1 else 0))
              rw [if_pos e, hc]
              simp only [jlit, jadd]
          -- at 125
          have c125 : ∀ (ρ : Mm) (a' lo' : Int32), a' = jI (gF (fun a b : Int => a + b) 0 (pK ru W) (k + 1)) → lo' = jI (gF min 2147483647 (pK ru W) (k + 1)) → FS τ1 ρ → (∀ j, j < k + 1 → ρ.1 119 j = jI (pK ru W j)) → ρ.1 118 0 = jI (yK ru W k) → ρ.1 118 7 = jI (pK ru W k) → Wp l G (d + 11) mX12_spread 125 [(0, .ref 98), (1, .int y), (2, .int nn), (3, .int c), (4, .int a'), (5, .int lo'), (6, .int hi), (7, .int u)] [] ρ Q := by
            intro ρ a' lo' ha' hlo' F' hS' h0 h7
            refine wX12_spread [(146, [0, 1, 2, 3, 4, 5, 6, 7])] 40 ?_
            refine ldI 494 7 h7 ?_ (hi := rfl)
            refine brle (pK ru W k) (gF max 0 (pK ru W) k) (fun e => ?_) (fun e => ?_) (hx := rfl) (hy := hhi)
            · refine c146 ρ _ _ _ ha' hlo' ?_ F' hS' h0
              rw [hhi]
              show jI (gF max 0 (pK ru W) k) = jI (max (gF max 0 (pK ru W) k) (pK ru W k))
              congr 1
              omega
            · refine ldI 494 7 h7 ?_ (hi := rfl)
              refine c146 ρ _ _ _ ha' hlo' ?_ F' hS' h0
              show jI (pK ru W k) = jI (max (gF max 0 (pK ru W) k) (pK ru W k))
              congr 1
              omega
          refine wX12_spread [(125, [0, 1, 2, 3, 4, 5, 6, 7])] 80 ?_
          refine brle (nK ru W : Int) (k : Int) (fun z => by omega) (fun _ => ?_) (hx := hnn) (hy := hu)
          refine c_walks (W := W) M2.2.1 M2.2.2.2.1 (L1.fr (F.1 112 (by decide) (by decide) (by decide)) (F.1 113 (by decide) (by decide) (by decide)) (F.1 114 (by decide) (by decide) (by decide))) (GW.fr ⟨g3, g4⟩ F.2.1) (fun t h q1 q2 q3 => by rw [F.2.1]; exact g2 t h q1 q2 q3) hW M2.2.2.1 h6 (fun ρ p1 p2 => ?_)
          rw [hu, wkE_eK hr hW h6 (by omega)] at p2
          have p7 : ρ.1 118 7 = jI (pK ru W k) := p2.1 7 (by omega)
          have p0 : ρ.1 118 0 = jI (yK ru W k) := p2.1 0 (by omega)
          refine ldI 494 7 p7 ?_ (hi := rfl)
          refine stI 4096 k ?_ (hi := hu)
          obtain ⟨π, hπ⟩ : ∃ π, π = uI ρ 119 k (jI (pK ru W k)) := ⟨_, rfl⟩
          have Fπ : FS τ1 π := ⟨fun b h1 h2 h3 => by rw [hπ, uI_n h3, p1.1 b h1 h2, F.1 b h1 h2 h3], by rw [hπ]; exact p1.2.1.trans F.2.1, fun j h1 h2 => by rw [hπ, uI_n (by decide), p1.2.2 j h1 h2, F.2.2 j h1 h2]⟩
          have Sπ : ∀ j, j < k + 1 → π.1 119 j = jI (pK ru W j) := fun j hj => by
            by_cases e : j = k
            · rw [e, hπ, uI_at]
            · rw [hπ, uI_ne (Or.inr e), p1.1 119 (by decide) (by decide)]
              exact hS j (by omega)
          have q7 : π.1 118 7 = jI (pK ru W k) := by rw [hπ, uI_n (by decide)]; exact p7
          have q0 : π.1 118 0 = jI (yK ru W k) := by rw [hπ, uI_n (by decide)]; exact p0
          subst hπ
          refine ldI 494 7 q7 ?_ (hi := rfl)
          refine ldI 494 7 q7 ?_ (hi := rfl)
          have ea : a + jI (pK ru W k) = jI (gF (fun a b : Int => a + b) 0 (pK ru W) (k + 1)) := by
            rw [ha, jadd]
            rfl
          refine brle (gF min 2147483647 (pK ru W) k) (pK ru W k) (fun e => ?_) (fun e => ?_) (hx := hlo) (hy := rfl)
          · refine c125 _ _ _ ea ?_ Fπ Sπ q0 q7
            rw [hlo]
            show jI (gF min 2147483647 (pK ru W) k) = jI (min (gF min 2147483647 (pK ru W) k) (pK ru W k))
            congr 1
            omega
          · refine ldI 494 7 q7 ?_ (hi := rfl)
            refine c125 _ _ _ ea ?_ Fπ Sπ q0 q7
            show jI (pK ru W k) = jI (min (gF min 2147483647 (pK ru W) k) (pK ru W k))
            congr 1
            omega
      refine ldI 14 1 (M1.2.1.2 1 (by omega)) ?_ (hi := rfl)
      refine ldI 494 0 (M1.2.2.1.1 0 (by omega)) ?_ (hi := rfl)
      refine key (nK ru W) 0 τ1 _ _ _ _ _ _ (by omega) ?_ rfl rfl rfl rfl rfl ⟨fun _ _ _ _ => rfl, rfl, fun _ _ _ => rfl⟩ (fun j hj => by omega)
      have e : jI (ru 1) - jI (W.f 0) = jI (((ru 1).toNat - W.t : Nat) : Int) := by rw [jsub]; congr 1; omega
      rw [e]
      exact sh1 ⟨(ru 1).toNat - W.t, by omega⟩
  · rw [if_pos (Or.inl q)] at hq
    exact hq _ f0
end MSp
