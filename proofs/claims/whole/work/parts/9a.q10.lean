-- the class: strays, saved, worth
theorem zC_pol0 {ru am : Nat → Int} {ra : Nat → Nat → Int} {cp : Int} (r r' : Int) (N N' : Nat → Nat → Int) : ∀ (k t h : Nat), (t : Int) + k = ru 1 → zC ru am ra (some (fun _ _ => 0)) r cp N t h = zC ru am ra (some (fun _ _ => 0)) r' cp N' t h := by
  intro k
  induction k with
  | zero => intro t h ht; rw [zC_end (by omega), zC_end (by omega)]
  | succ k ih =>
    intro t h ht
    have hd : ∀ (r : Int) (B N : Nat → Nat → Int), zdd ru am ra (some (fun _ _ => 0)) cp B N r t h = 0 := fun r B N => by
      show zpd ru (fun _ _ => 0) r t h = 0
      unfold zpd
      split <;> rfl
    rw [zC_step (by omega), zC_step (by omega), hd, hd]
    unfold zcd
    rw [if_pos rfl, if_pos rfl, ih (t + 1) (h + 1) (by omega), ih (t + 1) h (by omega)]
section KQ4
variable {l : Launch} {G : GT} {d : Nat} {σ : Mm} {Q : Po} {ru : Nat → Int} {W : Wk}
theorem bS19_kA {c : Nat} (h : c ∉ kA) : c ∉ bS 19 ∧ c ≠ 19 := by
  have := rS_kA h
  unfold rS at this
  simp only [List.mem_append, List.mem_cons, List.not_mem_nil, or_false, not_or] at this
  exact ⟨this.2.1, by omega⟩
theorem bS19_cS {c : Nat} (h : c ∈ cS) : c ∉ bS 19 ∧ c ≠ 19 ∧ c ≠ 1 ∧ c ≠ 2 := by
  unfold cS at h
  unfold bS at h ⊢
  simp at h ⊢
  omega
/-- the cost here by another coupon, other refunds, in the table for trials -/
theorem k_costHere {x y z : Int32} (m cp : Int) (r : Nat) (pol : Option (Nat → Nat → Int)) (N : Nat → Nat → Int) (hK : KQ σ ru W) (h6 : W.f 6 = 0) (hL : LC σ ru W.am) (hS : SC σ ru W.ra) (hm : (m = 0 ∧ pol = none) ∨ (m = 2 ∧ pol = some (fun _ _ => 0))) (hc : 0 ≤ cp ∧ cp ≤ 999) (r2 : r ≤ 2) (hm2 : m = 2 → r = 0)
    (hfr : 0 < r → ∀ t h : Nat, ru 9 + ru 10 ≤ t → (t : Int) < ru 1 → h ≤ t → σ.1 (57 + (r - 1)) (nd t h) = jI (N t h)) (hNb : 0 < r → ∀ t h : Nat, (t : Int) < ru 1 → h ≤ t → 0 ≤ N t h ∧ N t h ≤ 690000)
    (hq : ∀ τ : Mm, (∀ c, c ∉ bS 19 → c ≠ 19 → τ.1 c = σ.1 c) → τ.2 = σ.2 → CI τ ru → τ.1 19 5 = jI cp → τ.1 19 6 = jI (r : Int) → (∀ t h : Nat, W.t ≤ t → (t : Int) < ru 1 → W.h ≤ h → h ≤ W.h + (t - W.t) → Nt τ 19 ru W.am W.ra pol r cp N t h) → Q (some (.int (jI (zC ru W.am W.ra pol r cp N W.t W.h)))) τ)
    (ex : x = jI cp := by first | rfl | assumption | (simp only [jlit, jneg, jadd, jsub, jmul]; done) | (simp only [jlit, jneg, jadd, jsub, jmul]; congr 1 <;> omega) | (congr 1 <;> omega)) (ey : y = jI (r : Int) := by first | rfl | assumption | (simp only [jlit, jneg, jadd, jsub, jmul]; done) | (simp only [jlit, jneg, jadd, jsub, jmul]; congr 1 <;> omega) | (congr 1 <;> omega)) (ez : z = jI m := by first | rfl | assumption | (simp only [jlit, jneg, jadd, jsub, jmul]; done) | (simp only [jlit, jneg, jadd, jsub, jmul]; congr 1 <;> omega) | (congr 1 <;> omega)) : MW l G (d + 5) mX11_costHere [.ref 0, .int x, .int y, .int z] σ Q := by
  have h12 := hK.ru
  obtain ⟨hr3, _, ht, hh, hht, _, h6t, bc⟩ := hK.r
  have hT := h6t h6
  have hn := nd_lt2 (t := W.t) (h := W.h) (by omega) hht
  obtain ⟨σ1, s1⟩ : ∃ σ1, σ1 = uI (uI σ 19 5 x) 19 6 y := ⟨_, rfl⟩
  have c1 : ∀ c, c ≠ 19 → σ1.1 c = σ.1 c := fun c hc => by rw [s1, uI_n hc, uI_n hc]
  have K1 : Kr σ1 2 W := hK.1.fr (c1 2 (by decide))
  refine vX11_costHere [] 60 ?_
  refine ldI 115 0 (show _ = jI (W.t : Int) by rw [← s1, ht]; exact K1.1 0 (by omega)) ?_
  refine ldI 115 1 (show _ = jI (W.h : Int) by rw [← s1, hh]; exact K1.1 1 (by omega)) ?_
  rw [← s1]
  refine k_build (o := 19) pol N r W.t W.h cp m (Or.inl rfl) (hK.2.1.1.fr (c1 1 (by decide))) (hL.fr (c1 16 (by decide)) (c1 17 (by decide)) (c1 18 (by decide))) (hS.fr (c1 55 (by decide))) hT hht hc ?_ (by rw [s1, uI_ne (Or.inr (by decide)), uI_at]; exact ex) (by rw [s1, uI_at]; exact ey) r2 (fun q => by omega) (fun q1 q2 t h p1 p2 p3 => ?_) hm2 hNb (fun τ g1 g2 g3 => ?_)
  · rcases hm with ⟨q1, q2⟩ | ⟨q1, q2⟩
    · exact Or.inl ⟨q1, q2⟩
    · exact Or.inr (Or.inr ⟨q1, q2⟩)
  · have e : frw m r = 57 + (r - 1) := by
      unfold frw
      rw [if_neg (by omega)]
    rw [e, c1 _ (by omega)]
    exact hfr q1 t h p1 p2 p3
  · have f1 : ∀ c, c ∉ bS 19 → c ≠ 19 → τ.1 c = σ.1 c := fun c q1 q2 => by rw [g1 c q1, c1 c q2]
    have C1 : CI τ ru := hK.2.1.frS (f1 1 (by decide) (by decide)) (fun c hc => f1 c (bS19_cS hc).1 (bS19_cS hc).2.1)
    have K2 : Kr τ 2 W := hK.1.fr (f1 2 (by decide) (by decide))
    refine k_hereD W.t W.h K2 ht.symm hh.symm (by omega) ?_
    refine ldI 91 (nd W.t W.h) (g3 W.t W.h (by omega) hT (by omega) (by omega)).2.2.2.2 ?_
    refine hq τ f1 (g2.trans (by rw [s1]; rfl)) C1 (by rw [g1 19 (by decide), s1, uI_ne (Or.inr (by decide)), uI_at]; exact ex) (by rw [g1 19 (by decide), s1, uI_at]; exact ey) g3
theorem QK.b19 {τ ρ : Mm} (f : ∀ c, c ∉ bS 19 → c ≠ 19 → ρ.1 c = τ.1 c) (g : ρ.2 = τ.2) : QK τ ρ := ⟨fun c q => f c (bS19_kA q).1 (bS19_kA q).2, fun c _ => by rw [g]⟩
theorem k_saved (hK : KQ σ ru W) (hq : ∀ τ, QK σ τ → CI τ ru → Q (some (.long (jL (aSaved ru W)))) τ) : MW l G (d + 6) mX11_saved [.ref 0] σ Q := by
  have h12 := hK.ru
  obtain ⟨hr3, r2, ht, hh, hht, _, h6t, bc⟩ := hK.r
  unfold aSaved at hq
  refine vX11_saved [] 90 ?_
  refine k_over hK ?_
  refine brz _ (fun q => ?_) (fun q => ?_)
  · rw [if_neg q] at hq
    have h6 : W.f 6 = 0 := by omega
    have hT := h6t h6
    have hn := nd_lt2 (t := W.t) (h := W.h) (by omega) hht
    refine k_least0 hK (fun τ g1 g2 g3 g4 g5 g6 g7 g8 g9 => ?_)
    have K1 := hK.fr g1 g2
    refine k_hereD W.t W.h K1.1 ht.symm hh.symm (by omega) ?_
    refine ldI 91 (nd W.t W.h) (show _ = jI (wZ ru W W.t W.h) from (g6 W.t W.h hT hht).2.2.2.2) ?_
    refine ldI 115 2 (K1.1.1 2 (by omega)) ?_
    refine k_costHere 0 (W.f 2) 0 none (zN ru W.am W.ra none 0) K1 h6 g4 g5 (Or.inl ⟨rfl, rfl⟩) bc (by omega) (fun _ => rfl) (fun z => by omega) (fun z => by omega) (fun ρ p1 p2 p3 _ _ p4 => ?_)
    have hq := hq ρ (g1.tr (QK.b19 p1 p2)) p3
    have b1 := hK.b none (Or.inl rfl) hK.ra W.r W.t W.h (by omega) hht r2
    have b2 := hK.b none (Or.inl rfl) hK.ra 0 W.t W.h (by omega) hht (by omega)
    have e : (jI (zco ru W.am W.ra none 0 (W.f 2) W.t W.h) - jI (wZ ru W W.t W.h)).toInt64 = jL (zco ru W.am W.ra none 0 (W.f 2) W.t W.h - wZ ru W W.t W.h) := by
      rw [jsub]
      exact jI_L (by unfold wZ; omega)
    rw [← e] at hq
    exact hq
  · rw [if_pos q] at hq
    exact hq σ QK.rf hK.2.1
theorem k_worth (hK : KQ σ ru W) (hq : ∀ τ, QK σ τ → CI τ ru → Q (some (.long (jL (aWorth ru W)))) τ) : MW l G (d + 6) mX11_worth [.ref 0] σ Q := by
  have h12 := hK.ru
  obtain ⟨hr3, r2, ht, hh, hht, _, h6t, bc⟩ := hK.r
  unfold aWorth at hq
  refine vX11_worth [] 90 ?_
  refine k_over hK ?_
  refine brz _ (fun q => ?_) (fun q => ?_)
  · rw [if_neg q] at hq
    have h6 : W.f 6 = 0 := by omega
    have hT := h6t h6
    have hn := nd_lt2 (t := W.t) (h := W.h) (by omega) hht
    refine k_least0 hK (fun τ g1 g2 g3 g4 g5 g6 g7 g8 g9 => ?_)
    have K1 := hK.fr g1 g2
    refine k_hereD W.t W.h K1.1 ht.symm hh.symm (by omega) ?_
    refine ldI 91 (nd W.t W.h) (show _ = jI (wZ ru W W.t W.h) from (g6 W.t W.h hT hht).2.2.2.2) ?_
    refine ldI 115 2 (K1.1.1 2 (by omega)) ?_
    refine k_costHere 2 (W.f 2) 0 (some (fun _ _ => 0)) (fun _ _ => 0) K1 h6 g4 g5 (Or.inr ⟨rfl, rfl⟩) bc (by omega) (fun _ => rfl) (fun z => by omega) (fun z => by omega) (fun ρ p1 p2 p3 _ _ p4 => ?_)
    have hq := hq ρ (g1.tr (QK.b19 p1 p2)) p3
    have b1 := hK.b none (Or.inl rfl) hK.ra W.r W.t W.h (by omega) hht r2
    have b2 := hK.b (some (fun _ _ => 0)) (Or.inr (Or.inr rfl)) hK.ra W.r W.t W.h (by omega) hht r2
    have e0 : zC ru W.am W.ra (some (fun _ _ => 0)) ((0 : Nat) : Int) (W.f 2) (fun _ _ => 0) W.t W.h = zco ru W.am W.ra (some (fun _ _ => 0)) W.r (W.f 2) W.t W.h := zC_pol0 _ _ _ _ ((ru 1).toNat - W.t) W.t W.h (by omega)
    have e : (jI (zC ru W.am W.ra (some (fun _ _ => 0)) ((0 : Nat) : Int) (W.f 2) (fun _ _ => 0) W.t W.h) - jI (wZ ru W W.t W.h)).toInt64 = jL (zco ru W.am W.ra (some (fun _ _ => 0)) W.r (W.f 2) W.t W.h - wZ ru W W.t W.h) := by
      rw [jsub, e0]
      exact jI_L (by unfold wZ; omega)
    rw [← e] at hq
    exact hq
  · rw [if_pos q] at hq
    exact hq σ QK.rf hK.2.1
theorem k_strays {x : Int32} (w : Int) (hK : KQ σ ru W) (rw' : R31 w) (hq : ∀ τ, QK σ τ → CI τ ru → Q (some (.int (jI (aStrays ru W w)))) τ) (ex : x = jI w := by first | rfl | assumption | (simp only [jlit, jneg, jadd, jsub, jmul]; done) | (simp only [jlit, jneg, jadd, jsub, jmul]; congr 1 <;> omega) | (congr 1 <;> omega)) : MW l G (d + 6) mX11_strays [.ref 0, .int x] σ Q := by
  have h12 := hK.ru
  have hr := hK.2.1.1.1
  obtain ⟨hr3, r2, ht, hh, hht, h6, h6t, bc⟩ := hK.r
  have hde := hK.2.2.2.2.2.2.2.2.2.2.2
  unfold aStrays at hq
  have no : W.f 6 = 1 ∨ ¬ (0 ≤ w ∧ w ≤ 2) → Q (some (.int (-1))) σ := fun z => by
    rw [if_pos z] at hq
    exact hq σ QK.rf hK.2.1
  refine vX11_strays [(69, [0, 1, 2, 3, 4, 5, 6, 7])] 60 ?_
  refine k_over hK ?_
  refine brz _ (fun q => ?_) (fun q => no (Or.inl q))
  refine brlt w 0 (fun z => no (by omega)) (fun q1 => ?_)
  refine brle w 2 (fun q2 => ?_) (fun z => no (by omega))
  rw [if_neg (by omega)] at hq
  have hT := h6t (by omega)
  refine k_least0 hK (fun τ1 g1 g2 g3 g4 g5 g6 g7 g8 g9 => ?_)
  have K1 := hK.fr g1 g2
  refine k_told0 K1 (fun τ p1 p2 p3 p4 p5 p6 p7 p8 p9 => ?_)
  have K2 := K1.fr p1 p2
  have hq := hq τ (g1.tr p1) p2
  have best : ∀ t h : Nat, (t : Int) < ru 1 → h ≤ t → τ.1 34 (nd t h) = jI (wBest ru W t h) := fun t h q1 q2 => by
    rw [p9 g3 34 (by decide)]
    exact (g6 t h q1 q2).2.2.2.1
  have told : ∀ t h : Nat, (t : Int) < ru 1 → h ≤ t → τ.1 46 (nd t h) = jI (wPol ru W t h) := fun t h q1 q2 => (p6 t h q1 q2).2.2.2.1
  have hle : ∀ T, T ≤ 12 → allN (wDs ru W) T ≤ 200 := fun T hT => by have := allN_le (wDs_le ru W) T hT; omega
  let I : Nat → Nat → Int32 → Prop := fun T H u => u = jI ((allN (wDs ru W) T + rowN (wDs ru W T) H : Nat) : Int) ∧ (0 < w → fs (wDl ru W) (12 * T + H) = -1)
  have wrap : ∀ (T h : Nat), T < 12 → W.f 0 ≤ T → (h : Int) = W.f 1 + T - W.f 0 + 1 → h ≤ T + 1 → fs (wDl ru W) (12 * (T + 1) + 0) = fs (wDl ru W) (12 * T + h) ∧ rowN (wDs ru W T) (T + 1) = rowN (wDs ru W T) h := fun T h hT hT0 eh hh => by
    refine ⟨?_, ?_⟩
    · rw [show 12 * (T + 1) + 0 = (12 * T + h) + (12 - h) by omega]
      refine fs_ext _ _ _ (fun i h1 h2 => wDl_0 (fun z => ?_))
      have : i / 12 = T := by omega
      have : i % 12 = i - 12 * T := by omega
      unfold wC at z
      omega
    · refine rowN_ext (T + 1) hh (fun k h1 h2 => ?_)
      unfold wDs
      rw [if_neg (fun z => by have := z.1; unfold wC at this; omega)]
  have start : ∀ (T : Nat), W.f 0 ≤ T → T < 12 → fs (wDl ru W) (12 * T + W.h) = fs (wDl ru W) (12 * T + 0) ∧ rowN (wDs ru W T) W.h = 0 := fun T hT hT2 => by
    refine ⟨?_, ?_⟩
    · rw [show 12 * T + W.h = (12 * T + 0) + W.h by omega]
      refine fs_ext _ _ _ (fun i h1 h2 => wDl_0 (fun z => ?_))
      have : i / 12 = T := by omega
      have : i % 12 = i - 12 * T := by omega
      unfold wC at z
      omega
    · refine rowN_zero W.h (fun k hk => ?_)
      unfold wDs
      rw [if_neg (fun z => by have := z.1; unfold wC at this; omega)]
  have inner : ∀ (n T h : Nat) (u a b : Int32), (h : Int) + n = W.f 1 + T - W.f 0 + 1 → W.h ≤ h → (T : Int) < ru 1 → W.f 0 ≤ T → I T h u → a = jI (T : Int) → b = jI (h : Int) → (∀ u' b', I (T + 1) 0 u' → Wp l G (d + 6) mX11_strays 149 [(0, .ref 0), (1, .int x), (2, .ref 31), (3, .ref 43), (4, .int (jI (W.t : Int))), (5, .int (jI (W.h : Int))), (6, .int u'), (7, .int a), (8, .int b')] [] τ Q) → Wp l G (d + 6) mX11_strays 84 [(0, .ref 0), (1, .int x), (2, .ref 31), (3, .ref 43), (4, .int (jI (W.t : Int))), (5, .int (jI (W.h : Int))), (6, .int u), (7, .int a), (8, .int b)] [] τ Q := by
    intro n T
    induction n with
    | zero =>
      intro h u a b hn hh0 hT1 hT0 hI ha hb hk
      refine wX11_strays [(149, [0, 1, 2, 3, 4, 5, 6, 7, 8])] 60 ?_
      refine brlt (W.h + T - W.t : Int) (h : Int) (fun _ => ?_) (fun z => by omega) (hx := by rw [ha, jadd, jsub])
      obtain ⟨w1, w2⟩ := wrap T h (by omega) hT0 (by omega) (by omega)
      refine hk u b ⟨?_, fun z => ?_⟩
      · rw [hI.1]
        show _ = jI ((allN (wDs ru W) T + rowN (wDs ru W T) (T + 1) + 0 : Nat) : Int)
        rw [w2]
        rfl
      · rw [w1]
        exact hI.2 z
    | succ n ih =>
      intro h u a b hn hh0 hT1 hT0 hI ha hb hk
      have hw1 : wDl ru W (12 * T + h) = wDs ru W T h := by
        unfold wDl
        rw [show (12 * T + h) / 12 = T by omega, show (12 * T + h) % 12 = h by omega]
      have hc : wC ru W T h := ⟨by omega, hT1, by omega, by omega, by omega⟩
      have hn2 := nd_lt2 (t := T) (h := h) (by omega) (by omega)
      have bb := wBest_in ru W T h
      have bp : 0 ≤ wPol ru W T h ∧ wPol ru W T h ≤ 2 := by
        have := zpd_in (ru := ru) (r := W.r) (hde T h)
        unfold wPol
        omega
      have fsS : fs (wDl ru W) (12 * T + (h + 1)) = if fs (wDl ru W) (12 * T + h) ≠ -1 then fs (wDl ru W) (12 * T + h) else if wDl ru W (12 * T + h) ≠ 0 then ((12 * T + h : Nat) : Int) else -1 := rfl
      refine wX11_strays [(84, [0, 1, 2, 3, 4, 5, 6, 7, 8])] 60 ?_
      refine brlt (W.h + T - W.t : Int) (h : Int) (fun z => by omega) (fun _ => ?_) (hx := by rw [ha, jadd, jsub])
      refine k_nodeOf T h ?_
      refine ldI 91 (nd T h) (best T h hT1 (by omega)) ?_
      refine ldI 91 (nd T h) (told T h hT1 (by omega)) ?_
      refine breq (wBest ru W T h) (wPol ru W T h) (fun zz => ?_) (fun zz => ?_) (hx := rfl) (hy := rfl)
      · have h0 : wDs ru W T h = 0 := by
          unfold wDs
          rw [if_neg (fun q => q.2 zz.symm)]
        refine ih (h + 1) u _ _ (by omega) (by omega) hT1 hT0 ⟨?_, fun z => ?_⟩ ha (by rw [hb]; first | rfl | assumption | (simp only [jlit, jneg, jadd, jsub, jmul]; done) | (simp only [jlit, jneg, jadd, jsub, jmul]; congr 1 <;> omega) | (congr 1 <;> omega)) hk
        · rw [hI.1]
          show _ = jI ((allN (wDs ru W) T + (rowN (wDs ru W T) h + wDs ru W T h) : Nat) : Int)
          rw [h0]
          rfl
        · rw [fsS, hI.2 z, hw1, h0]
          rfl
      · have h1 : wDs ru W T h = 1 := by
          unfold wDs
          rw [if_pos ⟨hc, fun q => zz q.symm⟩]
        refine brle w 0 (fun z => ?_) (fun z => ?_)
        · refine ih (h + 1) _ _ _ (by omega) (by omega) hT1 hT0 ⟨?_, fun z2 => by omega⟩ ha (by rw [hb]; first | rfl | assumption | (simp only [jlit, jneg, jadd, jsub, jmul]; done) | (simp only [jlit, jneg, jadd, jsub, jmul]; congr 1 <;> omega) | (congr 1 <;> omega)) hk
          rw [hI.1]
          show _ = jI ((allN (wDs ru W) T + (rowN (wDs ru W T) h + wDs ru W T h) : Nat) : Int)
          rw [h1]
          first | rfl | assumption | (simp only [jlit, jneg, jadd, jsub, jmul]; done) | (simp only [jlit, jneg, jadd, jsub, jmul]; congr 1 <;> omega) | (congr 1 <;> omega)
        · have ef : fs (wDl ru W) 144 = ((12 * T + h : Nat) : Int) := by
            have e1 : fs (wDl ru W) (12 * T + (h + 1)) = ((12 * T + h : Nat) : Int) := by
              rw [fsS, hI.2 z, hw1, h1]
              rfl
            have e2 := fs_keep (wDl ru W) (12 * T + (h + 1)) (by rw [e1]; omega) (144 - (12 * T + (h + 1)))
            rw [show 12 * T + (h + 1) + (144 - (12 * T + (h + 1))) = 144 by omega] at e2
            rw [e2, e1]
          rw [if_neg (by omega), if_neg (by rw [ef]; omega), ef] at hq
          refine breq w 1 (fun z2 => ?_) (fun z2 => ?_) (hx := ex) (hy := rfl)
          · rw [if_pos z2, show ((12 * T + h : Nat) : Int) / 12 = (T : Int) by omega, ← ha] at hq
            exact hq
          · rw [if_neg z2, show ((12 * T + h : Nat) : Int) % 12 = (h : Int) by omega, ← hb] at hq
            exact hq
  have outer : ∀ (n T : Nat) (u a : Int32), T + n = (ru 1).toNat → W.f 0 ≤ T → I T 0 u → a = jI (T : Int) → Wp l G (d + 6) mX11_strays 69 [(0, .ref 0), (1, .int x), (2, .ref 31), (3, .ref 43), (4, .int (jI (W.t : Int))), (5, .int (jI (W.h : Int))), (6, .int u), (7, .int a)] [] τ Q := by
    intro n
    induction n with
    | zero =>
      intro T u a hn hT0 hI ha
      refine wX11_strays [] 60 ?_
      refine ldI 14 1 K2.ru.1 ?_
      refine brle (ru 1) (T : Int) (fun _ => ?_) (fun z => by omega) (hx := rfl) (hy := ha)
      rw [show (ru 1).toNat = T by omega] at hq
      refine breq w 0 (fun z => ?_) (fun z => ?_) (hx := ex) (hy := rfl)
      · rw [if_pos z] at hq
        have hu : u = jI ((allN (wDs ru W) T : Nat) : Int) := hI.1
        rw [← hu] at hq
        exact hq
      · have e144 : fs (wDl ru W) 144 = -1 := by
          have e := fs_ext (wDl ru W) (12 * T + 0) (144 - 12 * T) (fun i h1 h2 => wDl_0 (fun z => by
            have : T ≤ i / 12 := by omega
            unfold wC at z
            omega))
          rw [show 12 * T + 0 + (144 - 12 * T) = 144 by omega] at e
          rw [e]
          exact hI.2 (by omega)
        rw [if_neg z, if_pos e144] at hq
        exact hq
    | succ n ih =>
      intro T u a hn hT0 hI ha
      refine wX11_strays [(84, [0, 1, 2, 3, 4, 5, 6, 7, 8])] 60 ?_
      refine ldI 14 1 K2.ru.1 ?_
      refine brle (ru 1) (T : Int) (fun z => by omega) (fun _ => ?_) (hx := rfl) (hy := ha)
      obtain ⟨w1, w2⟩ := start T hT0 (by omega)
      refine inner (T - W.t + 1) T W.h u a _ (by omega) (by omega) (by omega) hT0 ⟨?_, fun z => ?_⟩ ha rfl (fun u' b' hI' => ?_)
      · rw [hI.1, w2]
        rfl
      · rw [w1]
        exact hI.2 z
      · refine wX11_strays [(69, [0, 1, 2, 3, 4, 5, 6, 7])] 60 ?_
        exact ih (T + 1) _ _ (by omega) (by omega) hI' (by rw [ha]; first | rfl | assumption | (simp only [jlit, jneg, jadd, jsub, jmul]; done) | (simp only [jlit, jneg, jadd, jsub, jmul]; congr 1 <;> omega) | (congr 1 <;> omega))
  refine ldI 115 0 (show _ = jI (W.t : Int) by rw [ht]; exact K2.1.1 0 (by omega)) ?_
  refine ldI 115 1 (show _ = jI (W.h : Int) by rw [hh]; exact K2.1.1 1 (by omega)) ?_
  refine outer ((ru 1).toNat - W.t) W.t _ _ (by omega) (by omega) ⟨?_, fun _ => ?_⟩ rfl
  · rw [allN_zero W.t (fun t h q1 q2 => by unfold wDs; rw [if_neg (fun z => by have := z.1; unfold wC at this; omega)])]
    rfl
  · have e := fs_ext (wDl ru W) 0 (12 * W.t + 0) (fun i h1 h2 => wDl_0 (fun z => by
      have : i / 12 < W.t := by omega
      unfold wC at z
      omega))
    rw [show 0 + (12 * W.t + 0) = 12 * W.t + 0 by omega] at e
    rw [e]
    rfl
end KQ4
