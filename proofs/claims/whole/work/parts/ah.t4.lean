-- till: the class, whole
section KTj
variable {l : Launch} {G : GT} {d : Nat} {σ : Mm} {Q : Po} {ru : Nat → Int} {W : Wk}
theorem k_tillWithNotice {τ : Mm} {x : Int32} (hK : KQ σ ru W) (h6 : W.f 6 = 0) (h10 : 0 < ru 10) (hm : ru 9 ≤ (W.t : Int) ∧ (W.t : Int) + ru 10 < ru 1) (hI : TI σ τ ru W) (hN : NtA τ 31 ru W W.ra none) (h5 : τ.1 31 5 = jI (W.f 2)) (h6r : τ.1 31 6 = jI (W.r : Int))
    (hq : Q (some (.int (jI (gst (tillP ru W) 1000)))) τ) (ex : x = jI (whT ru W) := by first | rfl | assumption | (simp only [jlit, jneg, jadd, jsub, jmul]; done) | (simp only [jlit, jneg, jadd, jsub, jmul]; congr 1 <;> omega) | (congr 1 <;> omega)) : MW l G (d + 3) mX11_tillWithNotice [.ref 0, .ref 31, .int x] τ Q := by
  have h12 := hK.ru
  have hr := hK.2.1.1.1
  have hr' := hr
  unfold RB at hr'
  have hB := hK.2.2
  obtain ⟨hr3, r2, ht, hh, hht, _, h6t, bc⟩ := hK.r
  have hT := h6t h6
  have ham : ∀ j, 0 ≤ W.am j := fun j => (hB.2.2.2.2.2.2.2.1 j).1
  have hra : ∀ t h : Nat, (t : Int) < ru 1 → h ≤ t → 0 ≤ W.ra t h := fun t h _ _ => hK.ra t h
  have K1 : KQ τ ru W := hK.fr hI.1 hI.2.1
  obtain ⟨s, hs⟩ : ∃ s : Nat, (ru 10).toNat = s + 1 := ⟨(ru 10).toNat - 1, by omega⟩
  have hs2 : (ru 10).toNat - 1 = s := by omega
  have hsI : ((s : Nat) : Int) + 1 = ru 10 := by omega
  obtain ⟨l1, l2, l3, l4⟩ := Tb_len (o := 31) (Or.inr (Or.inl rfl))
  obtain ⟨m1, m2, m3, m4⟩ := l4 s (by omega)
  have bh : 0 ≤ whT ru W ∧ whT ru W ≤ 103000000 := wg_b hr hB hT hht (W.f 2) bc W.r r2
  have zp := fun t => zpr_in hr ham t
  have zl9 := fun t => zl_in hr ham t
  have bc1 : 0 ≤ wcT ru W ∧ wcT ru W ≤ 100 * (60000 + 19998) := by
    unfold wcT
    rw [hs2]
    have b1 := zb_in (X := fun t _ => zpr ru W.am t) (A := 20000) (cp := W.f 2) hr ham hra bc s (W.t + 1) (W.h + 1) (by omega) (by omega) (fun h' _ _ => by show 0 ≤ zpr ru W.am (W.t + 1 + s) ∧ zpr ru W.am (W.t + 1 + s) ≤ 20000; have := zp (W.t + 1 + s); have := zl9 (W.t + 1 + s); omega)
    have b2 := zb_in (X := fun t _ => zpr ru W.am t) (A := 20000) (cp := W.f 2) hr ham hra bc s (W.t + 1) W.h (by omega) (by omega) (fun h' _ _ => by show 0 ≤ zpr ru W.am (W.t + 1 + s) ∧ zpr ru W.am (W.t + 1 + s) ≤ 20000; have := zp (W.t + 1 + s); have := zl9 (W.t + 1 + s); omega)
    exact wgT_in hr ham bc (by omega) (by omega)
  have br1 : 0 ≤ wrT ru W ∧ wrT ru W ≤ 100 * (700000 + 19998) := by
    unfold wrT
    rw [hs2]
    have bx : ∀ h' : Nat, h' ≤ W.t + 1 + s → 0 ≤ zpr ru W.am (W.t + 1 + s) - zl ru W.am (W.t + 1 + s) + ru 13 + zN ru W.am W.ra none W.r (W.t + 1 + s) h' ∧ zpr ru W.am (W.t + 1 + s) - zl ru W.am (W.t + 1 + s) + ru 13 + zN ru W.am W.ra none W.r (W.t + 1 + s) h' ≤ 645000 := fun h' hh' => by
      have := zp (W.t + 1 + s)
      have := zl9 (W.t + 1 + s)
      have b := zN_in (pol := none) (ra := W.ra) hr ham hra (fun de q => by simp at q) W.r (W.t + 1 + s) h' (by omega) hh'
      omega
    have b1 := zb_in (X := fun t h => zpr ru W.am t - zl ru W.am t + ru 13 + zN ru W.am W.ra none W.r t h) (A := 645000) (cp := W.f 2) hr ham hra bc s (W.t + 1) (W.h + 1) (by omega) (by omega) (fun h' _ _ => bx h' (by omega))
    have b2 := zb_in (X := fun t h => zpr ru W.am t - zl ru W.am t + ru 13 + zN ru W.am W.ra none W.r t h) (A := 645000) (cp := W.f 2) hr ham hra bc s (W.t + 1) W.h (by omega) (by omega) (fun h' _ _ => bx h' (by omega))
    exact wgT_in hr ham bc (by omega) (by omega)
  -- what is compared
  obtain ⟨o, ho⟩ : ∃ o : Int, o = if 0 < (W.r : Int) then min (wcT ru W) (wrT ru W) else wcT ru W := ⟨_, rfl⟩
  have bo : 0 ≤ o ∧ o ≤ 103000000 := by rw [ho]; split <;> omega
  have hP : ∀ n : Int, 0 ≤ n → n ≤ 999 → (tillP ru W n = true ↔ o * 10 / (1000 + n) < whT ru W * 10 / (1000 + n)) := by
    intro n n0 n9
    rw [tillP_n h10 hm n]
    have mono : ∀ a b : Int, a ≤ b → a * 10 / (1000 + n) ≤ b * 10 / (1000 + n) := fun a b hab => Int.ediv_le_ediv (by omega) (by omega)
    by_cases q : 0 < (W.r : Int)
    · rw [ho, if_pos q]
      by_cases z : wcT ru W ≤ wrT ru W
      · rw [show min (wcT ru W) (wrT ru W) = wcT ru W by omega]
        have := mono _ _ z
        constructor
        · rintro (k | ⟨_, k⟩) <;> omega
        · intro k; exact Or.inl k
      · rw [show min (wcT ru W) (wrT ru W) = wrT ru W by omega]
        have := mono (wrT ru W) (wcT ru W) (by omega)
        constructor
        · rintro (k | ⟨_, k⟩) <;> omega
        · intro k; exact Or.inr ⟨q, k⟩
    · rw [ho, if_neg q]
      constructor
      · rintro (k | ⟨k, _⟩)
        · exact k
        · exact absurd k q
      · intro k; exact Or.inl k
  have key : ∀ (n : Nat) (u v : Int32), n ≤ 1000 → u = jI ((n : Int) - 1) → v = jI o → gst (tillP ru W) 1000 = gst (tillP ru W) n → Wp l G (d + 3) mX11_tillWithNotice 53 [(2, .int x), (4, .int v), (5, .int u)] [] τ Q := by
    intro n
    induction n with
    | zero =>
      intro u v hn hu hv he
      have he : gst (tillP ru W) 1000 = -1 := he
      rw [he] at hq
      refine wX11_tillWithNotice [] 40 ?_
      exact brlt ((0 : Nat) - 1 : Int) 0 (fun _ => hq) (fun z => by omega) (hx := hu) (hy := rfl)
    | succ n ih =>
      intro u v hn hu hv he
      have es : gst (tillP ru W) (n + 1) = if tillP ru W n then (n : Int) else gst (tillP ru W) n := rfl
      have hu' : u = jI (n : Int) := by rw [hu]; congr 1; omega
      have nz : ¬ (1000 + u = 0) := by
        rw [hu', show (1000 : Int32) = jI 1000 from rfl, show (0 : Int32) = jI 0 from rfl, jadd, jeq (by omega) (by omega)]
        omega
      have dO : v * 10 / (1000 + u) = jI (o * 10 / (1000 + (n : Int))) := by
        rw [hv, hu', show (1000 : Int32) = jI 1000 from rfl, show (10 : Int32) = jI 10 from rfl, jadd, jmul, jdiv (by omega) (by omega) (by omega) (by omega)]
      have dH : x * 10 / (1000 + u) = jI (whT ru W * 10 / (1000 + (n : Int))) := by
        rw [ex, hu', show (1000 : Int32) = jI 1000 from rfl, show (10 : Int32) = jI 10 from rfl, jadd, jmul, jdiv (by omega) (by omega) (by omega) (by omega)]
      have dv : ∀ w : Int, 0 ≤ w → w ≤ 1030000000 → 0 ≤ w / (1000 + (n : Int)) ∧ w / (1000 + (n : Int)) ≤ 1030000000 := fun w v0 v1 => ⟨Int.ediv_nonneg v0 (by omega), Int.le_trans (Int.ediv_le_self _ v0) v1⟩
      have eH := dv (whT ru W * 10) (by omega) (by omega)
      have eO := dv (o * 10) (by omega) (by omega)
      have hPn := hP (n : Int) (by omega) (by omega)
      refine wX11_tillWithNotice [(53, [2, 4, 5])] 40 ?_
      refine brlt (n : Int) 0 (fun z => by omega) (fun _ => ?_) (hx := hu') (hy := rfl)
      refine And.intro nz ?_
      refine And.intro nz ?_
      refine brle (whT ru W * 10 / (1000 + (n : Int))) (o * 10 / (1000 + (n : Int))) (fun z => ?_) (fun z => ?_) (hx := dH) (hy := dO)
      · refine ih _ v (by omega) (by rw [hu']; simp only [jlit, jneg, jadd, jsub]; congr 1) hv ?_
        rw [he, es, if_neg (fun k => by have := hPn.1 k; omega)]
      · rw [he, es, if_pos (hPn.2 z), ← hu'] at hq
        exact hq
  refine vX11_tillWithNotice [(53, [2, 4, 5])] 60 ?_
  have e10 : τ.1 1 10 = jI (ru 10) := K1.2.1.1.2 10 (by omega)
  refine ldI 14 10 e10 ?_ (hi := rfl)
  refine ldN 3 s m3 ?_ (hi := by simp only [jlit, jsub]; congr 1; omega)
  have nA := hN (W.t + 1) (W.h + 1) (by omega) (by omega)
  have nB := hN (W.t + 1) W.h (by omega) (by omega)
  refine k_weighedHere (o := 31) (W.f 2) (zb ru W.am W.ra (W.f 2) (fun t _ => zpr ru W.am t) s) (Or.inl rfl) m1 K1 h6 hI.2.2.1 bc h5 (nA.2.1 s (by omega) (by omega)) (nB.2.1 s (by omega) (by omega)) ?_
  have ewc : wgT ru W.am (W.f 2) (zb ru W.am W.ra (W.f 2) (fun t _ => zpr ru W.am t) s) W.t W.h = wcT ru W := by unfold wcT; rw [hs2]
  have ewr : wgT ru W.am (W.f 2) (zb ru W.am W.ra (W.f 2) (fun t h => zpr ru W.am t - zl ru W.am t + ru 13 + zN ru W.am W.ra none W.r t h) s) W.t W.h = wrT ru W := by unfold wrT; rw [hs2]
  rw [ewc]
  refine brle (W.r : Int) 0 (fun q => ?_) (fun q => ?_) (hx := h6r) (hy := rfl)
  · exact key 1000 _ _ (by omega) rfl (by rw [ho, if_neg (by omega)]) rfl
  · refine ldN 3 s m4 ?_ (hi := by simp only [jlit, jsub]; congr 1; omega)
    refine k_weighedHere (o := 31) (W.f 2) (zb ru W.am W.ra (W.f 2) (fun t h => zpr ru W.am t - zl ru W.am t + ru 13 + zN ru W.am W.ra none W.r t h) s) (Or.inl rfl) m2 K1 h6 hI.2.2.1 bc h5 (nA.2.2.1 (by omega) s (by omega) (by omega) (by omega)) (nB.2.2.1 (by omega) s (by omega) (by omega) (by omega)) ?_
    rw [ewr]
    refine key 1000 _ _ (by omega) rfl ?_ rfl
    rw [ho, if_pos q]
    by_cases z : wrT ru W < wcT ru W
    · rw [if_pos ((jlt (by omega) (by omega)).mpr z)]
      congr 1
      omega
    · rw [if_neg (fun k => z ((jlt (by omega) (by omega)).mp k))]
      congr 1
      omega
theorem k_till (hK : KQ σ ru W) (hq : ∀ τ, QK σ τ → CI τ ru → Q (some (.int (jI (aTill ru W)))) τ) : MW l G (d + 8) mX11_till [.ref 0] σ Q := by
  have h12 := hK.ru
  have hr := hK.2.1.1.1
  have hr' := hr
  unfold RB at hr'
  obtain ⟨hr3, r2, ht, hh, hht, _, h6t, bc⟩ := hK.r
  unfold aTill at hq
  refine vX11_till [] 60 ?_
  refine k_over hK ?_
  refine brz _ (fun q => ?_) (fun q => ?_)
  · have h6 : W.f 6 = 0 := by omega
    have hT := h6t h6
    refine ldI 115 0 (show _ = jI (W.t : Int) by rw [ht]; exact hK.1.1 0 (by omega)) ?_
    refine k_mayCall (W.t : Int) hK.2.1.1 (by omega) ?_ rfl
    refine brz _ (fun q2 => ?_) (fun hm => ?_)
    · rw [if_pos (Or.inr (by rw [← ht]; exact q2))] at hq
      exact hq σ QK.rf hK.2.1
    · rw [if_neg (by rw [← ht]; intro k; rcases k with k | k; exact q k; exact k hm)] at hq
      refine k_leastZ hK (fun τ g1 g2 g3 g4 g5 g6 g7 g8 g9 => ?_)
      have K1 := hK.fr g1 g2
      have I1 : TI σ τ ru W := ⟨g1, g2, g3, g4, g8⟩
      have cost : ∀ h : Nat, h ≤ W.t + 1 → τ.1 32 (nd (W.t + 1) h) = jI (zco ru W.am W.ra none W.r (W.f 2) (W.t + 1) h) := fun h hh2 => by
        by_cases e : ((W.t + 1 : Nat) : Int) < ru 1
        · exact (g5 (W.t + 1) h e hh2).2.2.2.2
        · unfold zco
          rw [zC_end (by omega)]
          have := g9 h (by omega)
          rw [show (ru 1).toNat = W.t + 1 by omega] at this
          exact this
      refine k_weighedHere (o := 31) (a := 32) (W.f 2) (zco ru W.am W.ra none W.r (W.f 2)) (Or.inl rfl) (by decide) K1 h6 g3 bc g6 (cost (W.h + 1) (by omega)) (cost W.h (by omega)) ?_
      refine ldI 14 10 (K1.2.1.1.2 10 (by omega)) ?_ (hi := rfl)
      refine brle (ru 10) 0 (fun q3 => ?_) (fun q3 => ?_) (hx := rfl) (hy := rfl)
      · exact k_tillAtOnce hK h6 (by omega) hm I1 (fun ρ h => hq ρ h.1 h.2.1) rfl
      · exact k_tillWithNotice hK h6 q3 hm I1 g5 g6 g7 (hq τ g1 g2) rfl
  · rw [if_pos (Or.inl q)] at hq
    exact hq σ QK.rf hK.2.1
end KTj
