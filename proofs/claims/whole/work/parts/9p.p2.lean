-- numbers of the tape
/-- where one stands behind a number, the number, the fault (-1: none) -/
def nuE (T : Tp) (p : Nat) : Nat × Int × Int := if dg T (sk T p) then ((nuF T 4 (sk T p) 0).1, (nuF T 4 (sk T p) 0).2, if dg T (nuF T 4 (sk T p) 0).1 then ((nuF T 4 (sk T p) 0).1 : Int) else -1) else (sk T p, 0, (sk T p : Int))
section MP2
variable {l : Launch} {G : GT} {d : Nat} {σ : Mm} {Q : Po} {T : Tp}
theorem c_fails (v : Int32) (ha : σ.1 98 3 = v) (hf : σ.1 98 4 = -1) (hq : Q none (uI σ 98 4 v)) : MW l G d mX12_fails [.ref 98] σ Q := by
  refine vX12_fails [] 40 ?_
  rw [← ha] at hq
  exact And.intro (fun _ => hq) (fun q => absurd hf q)
theorem c_digit (p : Nat) (hT : TM σ T) (hp : p ≤ T.n) (ha : σ.1 98 3 = jI (p : Int)) (hf : σ.1 98 4 = -1)
    (hq1 : ¬ dg T (sk T p) → Q (some (.int (jI 0))) (uI (uI σ 98 3 (jI (sk T p : Int))) 98 4 (jI (sk T p : Int))))
    (hq : dg T (sk T p) → Q (some (.int (jI (ch T (sk T p) - 48)))) (uI σ 98 3 (jI ((sk T p + 1 : Nat) : Int)))) : MW l G (d + 2) mX12_digit [.ref 98] σ Q := by
  have h1 := hT.1
  have hs := sk_in hp
  refine vX12_digit [] 60 ?_
  refine c_look (T.n - p) p rfl hT hp ha ?_
  have ha2 := uI_at σ 98 3 (jI (sk T p : Int))
  have hf2 : (uI σ 98 3 (jI (sk T p : Int))).1 98 4 = -1 := by rw [uI_ne (Or.inr (by decide))]; exact hf
  refine And.intro (fun _ => ?_) (fun q => absurd hf2 q)
  refine c_isDigit (sk T p) hT.at hs.2 ha2 ?_
  refine brz _ (fun q => ?_) (fun q => ?_)
  · refine c_fails _ ha2 hf2 ?_
    exact hq1 q
  · have hq := hq q
    have e : uI (uI σ 98 3 (jI (sk T p : Int))) 98 3 ((uI σ 98 3 (jI (sk T p : Int))).1 98 3 + 1) = uI σ 98 3 (jI ((sk T p + 1 : Nat) : Int)) := by
      rw [uI_uI, uI_at]
      congr 1
      simp only [jlit, jadd]
      congr 1
    rw [← e, ← jsub] at hq
    exact hq
theorem c_number (p : Nat) (hT : TM σ T) (hp : p ≤ T.n) (ha : σ.1 98 3 = jI (p : Int)) (hf : σ.1 98 4 = -1)
    (hq : ∀ τ : Mm, (∀ c, c ≠ 98 → τ.1 c = σ.1 c) → τ.2 = σ.2 → (∀ k, k ≠ 3 → k ≠ 4 → τ.1 98 k = σ.1 98 k) → τ.1 98 3 = jI ((nuE T p).1 : Int) → τ.1 98 4 = jI (nuE T p).2.2 → Q (some (.int (jI (nuE T p).2.1))) τ) : MW l G (d + 3) mX12_number [.ref 98] σ Q := by
  have h1 := hT.1
  have hs := sk_in hp
  refine vX12_number [(7, [0, 1, 2])] 60 ?_
  refine c_digit p hT hp ha hf (fun q => ?_) (fun q => ?_)
  · have e : nuE T p = (sk T p, 0, (sk T p : Int)) := by unfold nuE; rw [if_neg q]
    rw [e] at hq
    obtain ⟨τ, eτ⟩ : ∃ τ, τ = uI (uI σ 98 3 (jI (sk T p : Int))) 98 4 (jI (sk T p : Int)) := ⟨_, rfl⟩
    have f4 : τ.1 98 4 = jI (sk T p : Int) := by rw [eτ, uI_at]
    have hfin : Wp l G (d + 3) mX12_number 7 [(0, .ref 98), (1, .int (jI 0)), (2, .int 1)] [] τ Q := by
      refine wX12_number [] 60 ?_
      refine brle 4 1 (fun z => by omega) (fun _ => ?_) (hx := rfl) (hy := rfl)
      refine breq (sk T p : Int) (-1) (fun z => by omega) (fun _ => ?_) (hx := f4) (hy := rfl)
      refine breq (sk T p : Int) (-1) (fun z => by omega) (fun _ => ?_) (hx := f4) (hy := rfl)
      refine hq τ (fun c hc => by rw [eτ, uI_n hc, uI_n hc]) (by rw [eτ]; rfl) (fun k k1 k2 => by rw [eτ, uI_ne (Or.inr k2), uI_ne (Or.inr k1)]) ?_ f4
      rw [eτ, uI_ne (Or.inr (by decide)), uI_at]
    rw [eτ] at hfin
    exact hfin
  · have hlt := dg_lt q
    have e : nuE T p = ((nuF T 4 (sk T p) 0).1, (nuF T 4 (sk T p) 0).2, if dg T (nuF T 4 (sk T p) 0).1 then ((nuF T 4 (sk T p) 0).1 : Int) else -1) := by unfold nuE; rw [if_pos q]
    rw [e] at hq
    have key : ∀ (m k j : Nat) (v : Int) (τ : Mm) (u w : Int32), k + m = 4 → j ≤ T.n → 0 ≤ v → u = jI v → w = jI (k : Int) → (∀ c, c ≠ 98 → τ.1 c = σ.1 c) → τ.2 = σ.2 → (∀ k, k ≠ 3 → τ.1 98 k = σ.1 98 k) → τ.1 98 3 = jI (j : Int) → nuF T 4 (sk T p) 0 = nuF T m j v → Wp l G (d + 3) mX12_number 7 [(0, .ref 98), (1, .int u), (2, .int w)] [] τ Q := by
      -- behind the digits
      have fin : ∀ (j : Nat) (v : Int) (τ : Mm) (u : Int32), j ≤ T.n → u = jI v → (∀ c, c ≠ 98 → τ.1 c = σ.1 c) → τ.2 = σ.2 → (∀ k, k ≠ 3 → τ.1 98 k = σ.1 98 k) → τ.1 98 3 = jI (j : Int) → nuF T 4 (sk T p) 0 = (j, v) → Wp l G (d + 3) mX12_number 43 [(0, .ref 98), (1, .int u)] [] τ Q := by
        intro j v τ u hj hu e1 e2 e3 e4 he
        rw [he] at hq
        have Tt : TM τ T := hT.fr (e3 2 (by decide)) (e1 99 (by decide))
        have f4 : τ.1 98 4 = -1 := by rw [e3 4 (by decide)]; exact hf
        refine wX12_number [] 60 ?_
        refine And.intro (fun _ => ?_) (fun z => absurd f4 z)
        refine c_isDigit j Tt hj e4 ?_
        refine brz _ (fun z => ?_) (fun z => ?_)
        · rw [if_neg z, ← hu] at hq
          exact hq τ e1 e2 (fun k k1 _ => e3 k k1) e4 (by rw [f4]; rfl)
        · rw [if_pos z, ← hu] at hq
          refine c_fails _ e4 f4 ?_
          exact hq _ (fun c hc => by rw [uI_n hc]; exact e1 c hc) e2 (fun k k1 k2 => by rw [uI_ne (Or.inr k2)]; exact e3 k k1) (by rw [uI_ne (Or.inr (by decide))]; exact e4) (uI_at _ _ _ _)
      intro m
      induction m with
      | zero =>
        intro k j v τ u w hk hj hv hu hw e1 e2 e3 e4 he
        refine wX12_number [(43, [0, 1])] 60 ?_
        refine brle 4 (k : Int) (fun _ => ?_) (fun z => by omega) (hx := rfl) (hy := hw)
        exact fin j v τ u hj hu e1 e2 e3 e4 he
      | succ m ih =>
        intro k j v τ u w hk hj hv hu hw e1 e2 e3 e4 he
        have Tt : TM τ T := hT.fr (e3 2 (by decide)) (e1 99 (by decide))
        have f4 : τ.1 98 4 = -1 := by rw [e3 4 (by decide)]; exact hf
        have es : nuF T (m + 1) j v = if dg T j then nuF T m (j + 1) (10 * v + (ch T j - 48)) else (j, v) := rfl
        refine wX12_number [(43, [0, 1]), (7, [0, 1, 2])] 60 ?_
        refine brle 4 (k : Int) (fun z => by omega) (fun _ => ?_) (hx := rfl) (hy := hw)
        refine And.intro (fun _ => ?_) (fun z => absurd f4 z)
        refine c_isDigit j Tt hj e4 ?_
        refine brz _ (fun z => ?_) (fun z => ?_)
        · exact fin j v τ u hj hu e1 e2 e3 e4 (by rw [he, es, if_neg z])
        · have hjl := dg_lt z
          have hsk : sk T j = j := sk_n (by unfold dg at z; omega)
          refine c_digit j Tt hj e4 f4 (fun z2 => absurd (by rw [hsk]; exact z) z2) (fun z2 => ?_)
          rw [hsk]
          refine ih (k + 1) (j + 1) (10 * v + (ch T j - 48)) _ _ _ (by omega) (by omega) (by unfold dg at z; omega) (by rw [hu, show (10 : Int32) = jI 10 from rfl, jmul, jadd]) (by rw [hw]; simp only [jlit, jadd]; congr 1) (fun c hc => by rw [uI_n hc]; exact e1 c hc) e2 (fun k hk => by rw [uI_ne (Or.inr hk)]; exact e3 k hk) (uI_at _ _ _ _) (by rw [he, es, if_pos z])
    have es : nuF T 4 (sk T p) 0 = if dg T (sk T p) then nuF T 3 (sk T p + 1) (10 * 0 + (ch T (sk T p) - 48)) else (sk T p, 0) := rfl
    refine key 3 1 (sk T p + 1) (10 * 0 + (ch T (sk T p) - 48)) _ _ _ (by omega) (by omega) (by unfold dg at q; omega) (by congr 1; omega) rfl (fun c hc => by rw [uI_n hc]) rfl (fun k hk => by rw [uI_ne (Or.inr hk)]) (uI_at _ _ _ _) (by rw [es, if_pos q])
end MP2
section KP2
variable {l : Launch} {G : GT} {d : Nat} {σ : Mm} {Q : Po} {T : Tp}
/-- the fault of a number in its bounds, -1 none -/
def nuB (T : Tp) (p : Nat) (lo hi : Int) : Int := if (nuE T p).2.2 ≠ -1 then (nuE T p).2.2 else if lo ≤ (nuE T p).2.1 ∧ (nuE T p).2.1 ≤ hi then -1 else ((nuE T p).1 : Int) - 1
theorem k_readNumber {x y : Int32} (p : Nat) (lo hi : Int) (hT : TK σ T) (hp : p ≤ T.n) (ha : σ.1 8 5 = jI (p : Int)) (rl : R31 lo) (rh : R31 hi)
    (hq : ∀ τ : Mm, (∀ c, c ≠ 8 → τ.1 c = σ.1 c) → τ.2 = σ.2 → (∀ k, k ≠ 5 → k ≠ 6 → τ.1 8 k = σ.1 8 k) → τ.1 8 5 = jI ((nuE T p).1 : Int) → ((nuE T p).2.2 = -1 → τ.1 8 6 = jI (nuE T p).2.1) → Q (some (.int (jI (nuB T p lo hi)))) τ) (ex : x = jI lo := by first | rfl | assumption | (simp only [jlit, jneg, jadd, jsub, jmul]; done) | (simp only [jlit, jneg, jadd, jsub, jmul]; congr 1 <;> omega) | (congr 1 <;> omega)) (ey : y = jI hi := by first | rfl | assumption | (simp only [jlit, jneg, jadd, jsub, jmul]; done) | (simp only [jlit, jneg, jadd, jsub, jmul]; congr 1 <;> omega) | (congr 1 <;> omega)) : MW l G (d + 2) mX4_readNumber [.ref 8, .int x, .int y] σ Q := by
  have h1 := hT.1
  have hs := sk_in hp
  refine vX4_readNumber [(33, [0, 1, 2, 3])] 60 ?_
  refine k_skipBlanks p hT hp ha ?_
  have ha2 := uI_at σ 8 5 (jI (sk T p : Int))
  have ci := cz_in T (sk T p)
  refine k_at (sk T p) hT.rd (by omega) ?_ ha2
  refine k_isDigitS (cz T (sk T p)) (by omega) ?_
  refine brz _ (fun q => ?_) (fun q => ?_)
  · have q' : ¬ dg T (sk T p) := fun z => q (cz_dg.2 z)
    have e : nuE T p = (sk T p, 0, (sk T p : Int)) := by unfold nuE; rw [if_neg q']
    unfold nuB at hq
    rw [e] at hq
    have hq := hq (uI σ 8 5 (jI (sk T p : Int))) (fun c hc => by rw [uI_n hc]) rfl (fun k k1 _ => by rw [uI_ne (Or.inr k1)]) ha2 (fun z => absurd (show (sk T p : Int) = -1 from z) (by omega))
    rw [if_pos (show (sk T p : Int) ≠ -1 by omega), ← ha2] at hq
    exact hq
  · have q' : dg T (sk T p) := cz_dg.1 q
    have e : nuE T p = ((nuF T 4 (sk T p) 0).1, (nuF T 4 (sk T p) 0).2, if dg T (nuF T 4 (sk T p) 0).1 then ((nuF T 4 (sk T p) 0).1 : Int) else -1) := by unfold nuE; rw [if_pos q']
    unfold nuB at hq
    rw [e] at hq
    have bin := nuF_in T 4 (sk T p) 0 hs.2 (by omega)
    have key : ∀ (m k j : Nat) (v : Int) (τ : Mm) (w : Int32), k + m = 4 → j ≤ T.n → 0 ≤ v → w = jI (k : Int) → (∀ c, c ≠ 8 → τ.1 c = σ.1 c) → τ.2 = σ.2 → (∀ k, k ≠ 5 → k ≠ 6 → τ.1 8 k = σ.1 8 k) → τ.1 8 5 = jI (j : Int) → τ.1 8 6 = jI v → nuF T 4 (sk T p) 0 = nuF T m j v → (∀ j' v', nuF T 4 (sk T p) 0 = (j', v') → v' < 10000) → Wp l G (d + 2) mX4_readNumber 33 [(0, .ref 8), (1, .int x), (2, .int y), (3, .int w)] [] τ Q := by
      have fin : ∀ (j : Nat) (v : Int) (τ : Mm), j ≤ T.n → 1 ≤ j → 0 ≤ v → v < 10000 → ¬ dg T j → (∀ c, c ≠ 8 → τ.1 c = σ.1 c) → τ.2 = σ.2 → (∀ k, k ≠ 5 → k ≠ 6 → τ.1 8 k = σ.1 8 k) → τ.1 8 5 = jI (j : Int) → τ.1 8 6 = jI v → nuF T 4 (sk T p) 0 = (j, v) → Wp l G (d + 2) mX4_readNumber 107 [(0, .ref 8), (1, .int x), (2, .int y)] [] τ Q := by
        intro j v τ hj hj1 hv hv2 hd e1 e2 e3 e4 e5 he
        rw [he] at hq
        rw [if_neg hd] at hq
        have hq := hq τ e1 e2 e3 e4 (fun _ => e5)
        rw [if_neg (fun z => z rfl)] at hq
        have no : ¬ (lo ≤ v ∧ v ≤ hi) → Q (some (.int (τ.1 8 5 - 1))) τ := fun z => by
          rw [if_neg z] at hq
          rw [e4, show (1 : Int32) = jI 1 from rfl, jsub]
          exact hq
        refine wX4_readNumber [] 60 ?_
        refine brlt v lo (fun z => no (by omega)) (fun z1 => ?_) (hx := e5) (hy := ex)
        refine brle v hi (fun z2 => ?_) (fun z => no (by omega)) (hx := e5) (hy := ey)
        rw [if_pos ⟨z1, z2⟩] at hq
        exact hq
      intro m
      induction m with
      | zero =>
        intro k j v τ w hk hj hv hw e1 e2 e3 e4 e5 he hb
        have Tt : TK τ T := hT.fr (e1 6 (by decide)) (e1 7 (by decide))
        have he' : nuF T 4 (sk T p) 0 = (j, v) := he
        have cj := cz_in T j
        refine wX4_readNumber [(107, [0, 1, 2])] 60 ?_
        refine brlt 4 (k : Int) (fun z => by omega) (fun _ => ?_) (hx := rfl) (hy := hw)
        refine k_at j Tt (by omega) ?_ e4
        refine k_isDigitS (cz T j) (by omega) ?_
        refine brz _ (fun z => ?_) (fun z => ?_)
        · rw [he'] at bin
          exact fin j v τ hj (by have := dg_lt q'; have h9 : nuF T 4 (sk T p) 0 = nuF T 3 (sk T p + 1) (10 * 0 + (ch T (sk T p) - 48)) := by (show (if dg T (sk T p) then nuF T 3 (sk T p + 1) (10 * 0 + (ch T (sk T p) - 48)) else (sk T p, 0)) = _; rw [if_pos q']);
                                 have h8 := (nuF_in T 3 (sk T p + 1) (10 * 0 + (ch T (sk T p) - 48)) (by omega) (by unfold dg at q'; omega)).1; rw [← h9, he'] at h8; have h8 : sk T p + 1 ≤ j := h8; omega) hv (hb j v he') (fun w => z (cz_dg.2 w)) e1 e2 e3 e4 e5 he'
        · have zd : dg T j := cz_dg.1 z
          refine breq (k : Int) 4 (fun _ => ?_) (fun z => by omega) (hx := hw) (hy := rfl)
          rw [he'] at hq
          rw [if_pos zd] at hq
          have hq := hq τ e1 e2 e3 e4 (fun z => absurd (show (j : Int) = -1 from z) (by omega))
          rw [if_pos (show (j : Int) ≠ -1 by omega), ← e4] at hq
          exact hq
      | succ m ih =>
        intro k j v τ w hk hj hv hw e1 e2 e3 e4 e5 he hb
        have Tt : TK τ T := hT.fr (e1 6 (by decide)) (e1 7 (by decide))
        have es : nuF T (m + 1) j v = if dg T j then nuF T m (j + 1) (10 * v + (ch T j - 48)) else (j, v) := rfl
        have cj := cz_in T j
        refine wX4_readNumber [(107, [0, 1, 2]), (33, [0, 1, 2, 3])] 60 ?_
        refine brlt 4 (k : Int) (fun z => by omega) (fun _ => ?_) (hx := rfl) (hy := hw)
        refine k_at j Tt (by omega) ?_ e4
        refine k_isDigitS (cz T j) (by omega) ?_
        refine brz _ (fun z => ?_) (fun z => ?_)
        · have zd : ¬ dg T j := fun w => z (cz_dg.2 w)
          have he' : nuF T 4 (sk T p) 0 = (j, v) := by rw [he, es, if_neg zd]
          exact fin j v τ hj (by have h9 : nuF T 4 (sk T p) 0 = nuF T 3 (sk T p + 1) (10 * 0 + (ch T (sk T p) - 48)) := by (show (if dg T (sk T p) then nuF T 3 (sk T p + 1) (10 * 0 + (ch T (sk T p) - 48)) else (sk T p, 0)) = _; rw [if_pos q']);
                                 have hl := dg_lt q'; have h8 := (nuF_in T 3 (sk T p + 1) (10 * 0 + (ch T (sk T p) - 48)) (by omega) (by unfold dg at q'; omega)).1; rw [← h9, he'] at h8; have h8 : sk T p + 1 ≤ j := h8; omega) hv (hb j v he') zd e1 e2 e3 e4 e5 he'
        · have zd : dg T j := cz_dg.1 z
          have hjl := dg_lt zd
          have ec : cz T j = ch T j := by unfold cz ch; rw [if_pos hjl, if_pos hjl]
          refine breq (k : Int) 4 (fun z => by omega) (fun _ => ?_) (hx := hw) (hy := rfl)
          refine k_at j Tt (by omega) ?_ e4
          refine ih (k + 1) (j + 1) (10 * v + (ch T j - 48)) _ _ (by omega) (by omega) (by unfold dg at zd; omega) (by rw [hw]; simp only [jlit, jadd]; congr 1) (fun c hc => by rw [uI_n hc, uI_n hc]; exact e1 c hc) e2 (fun k k1 k2 => by rw [uI_ne (Or.inr k1), uI_ne (Or.inr k2)]; exact e3 k k1 k2) (by rw [uI_at, uI_ne (Or.inr (by decide)), e4]; simp only [jlit, jadd]; congr 1) (by rw [uI_ne (Or.inr (by decide)), uI_at, e5, ec]; simp only [jlit, jadd, jsub, jmul]; congr 1; omega) (by rw [he, es, if_pos zd]) hb
    refine key 4 0 (sk T p) 0 _ _ (by omega) hs.2 (by omega) rfl (fun c hc => by rw [uI_n hc, uI_n hc]) rfl (fun k k1 k2 => by rw [uI_ne (Or.inr k2), uI_ne (Or.inr k1)]) (by rw [uI_ne (Or.inr (by decide)), uI_at]) (uI_at _ _ _ _) rfl (fun j' v' h => ?_)
    rw [h] at bin
    have := bin.2.2.2
    have h10 : ((0 : Int) + 1) * 10 ^ 4 = 10000 := by decide
    rw [h10] at this
    exact this
end KP2
