-- the class: year, sums, most, strays, saved, worth
section KQ3
variable {l : Launch} {G : GT} {d : Nat} {σ : Mm} {Q : Po} {ru : Nat → Int} {W : Wk}
theorem k_year {x y : Int32} (t w : Int) (hK : KQ σ ru W) (rt : R31 t) (rw' : R31 w) (hq : ∀ τ, QK σ τ → CI τ ru → Q (some (.int (jI (aYear ru W t w)))) τ) (ex : x = jI t := by first | rfl | assumption | (simp only [jlit, jneg, jadd, jsub, jmul]; done) | (simp only [jlit, jneg, jadd, jsub, jmul]; congr 1 <;> omega) | (congr 1 <;> omega)) (ey : y = jI w := by first | rfl | assumption | (simp only [jlit, jneg, jadd, jsub, jmul]; done) | (simp only [jlit, jneg, jadd, jsub, jmul]; congr 1 <;> omega) | (congr 1 <;> omega)) : MW l G (d + 4) mX11_year [.ref 0, .int x, .int y] σ Q := by
  have h12 := hK.ru
  have hr := hK.2.1.1.1
  obtain ⟨hr3, r2, ht, hh, hht, _, h6t, bc⟩ := hK.r
  have yw : y.toInt = w := by rw [ey]; exact jI_T rw'
  unfold aYear at hq
  have no : ¬ ((0 ≤ w ∧ w ≤ 4) ∧ (if w < 3 then 1 else 0) ≤ t ∧ t ≤ ru 1) → Q (some (.int (-1))) σ := fun q => by
    rw [if_neg q] at hq
    exact hq σ QK.rf hK.2.1
  have ok : (0 ≤ w ∧ w ≤ 4) ∧ (if w < 3 then 1 else 0) ≤ t ∧ t ≤ ru 1 → Wp l G (d + 4) mX11_year 42 [(0, .ref 0), (1, .int x), (2, .int y)] [] σ Q := by
    intro q
    rw [if_pos q] at hq
    obtain ⟨n, rfl⟩ : ∃ n : Nat, t = (n : Int) := ⟨t.toNat, by split at q <;> omega⟩
    rw [show (n : Int).toNat = n from Int.toNat_natCast n] at hq
    refine wX11_year [] 60 ?_
    refine k_lookN hK (fun τ F C L => ?_)
    have hq := hq τ F C
    have K1 := hK.fr F C
    have Ln := L.2 n (by omega)
    refine ⟨⟨fun e => ?_, fun e => ?_, fun e => ?_, fun e => ?_, trivial⟩, fun e => ?_⟩
    · rw [if_pos (by omega)] at hq
      rw [if_pos (by omega)] at q
      exact ldI 13 n (Ln.2.1 (by omega)) hq
    · rw [if_neg (by omega), if_pos (by omega)] at hq
      rw [if_pos (by omega)] at q
      refine ldI 115 2 (K1.1.1 2 (by omega)) ?_
      exact k_interestOf n (W.f 2) hr L (by omega) (by omega) bc hq
    · rw [if_neg (by omega), if_neg (by omega), if_pos (by omega)] at hq
      rw [if_pos (by omega)] at q
      refine ldI 13 n (Ln.2.1 (by omega)) ?_
      refine ldI 115 2 (K1.1.1 2 (by omega)) ?_
      refine k_interestOf n (W.f 2) hr L (by omega) (by omega) bc ?_
      unfold zd at hq
      rw [← jadd] at hq
      exact hq
    · rw [if_neg (by omega), if_neg (by omega), if_neg (by omega), if_pos (by omega)] at hq
      exact ldI 13 n Ln.1 hq
    · have e : y.toInt < 0 ∨ 3 < y.toInt := e
      rw [if_neg (by omega), if_neg (by omega), if_neg (by omega), if_neg (by omega)] at hq
      exact ldI 13 n Ln.2.2 hq
  refine vX11_year [(42, [0, 1, 2])] 60 ?_
  refine k_loan hK ?_
  refine And.intro (fun _ => ?_) (fun q => absurd rfl q)
  refine brlt w 0 (fun q => no (by omega)) (fun q1 => ?_)
  refine brlt 4 w (fun q => no (by omega)) (fun q2 => ?_)
  refine brle 3 w (fun q => ?_) (fun q => ?_)
  · refine brlt t 0 (fun z => no (by rw [if_neg (by omega)]; omega)) (fun q3 => ?_)
    refine ldI 14 1 h12.1 ?_
    exact brle t (ru 1) (fun q4 => ok ⟨⟨q1, q2⟩, by rw [if_neg (by omega)]; omega⟩) (fun z => no (by rw [if_neg (by omega)]; omega))
  · refine brlt t 1 (fun z => no (by rw [if_pos (by omega)]; omega)) (fun q3 => ?_)
    refine ldI 14 1 h12.1 ?_
    exact brle t (ru 1) (fun q4 => ok ⟨⟨q1, q2⟩, by rw [if_pos (by omega)]; omega⟩) (fun z => no (by rw [if_pos (by omega)]; omega))
theorem k_leftNow (hK : KQ σ ru W) (hq : ∀ τ, QK σ τ → CI τ ru → Q (some (.int (jI (if W.f 6 = 1 then 0 else zl ru W.am W.t)))) τ) : MW l G (d + 4) mX11_leftNow [.ref 0] σ Q := by
  have h12 := hK.ru
  obtain ⟨hr3, r2, ht, hh, hht, h6, h6t, bc⟩ := hK.r
  refine vX11_leftNow [] 60 ?_
  refine k_lookN hK (fun τ F C L => ?_)
  have K1 := hK.fr F C
  have hq := hq τ F C
  refine ldI 115 11 (K1.1.1 11 (by omega)) ?_
  refine breq (W.f 6) 0 (fun q => ?_) (fun q => ?_)
  · rw [if_neg (by omega)] at hq
    refine ldI 115 0 (show _ = jI (W.t : Int) by rw [ht]; exact K1.1.1 0 (by omega)) ?_
    exact ldI 13 W.t (L.2 W.t (by have := h6t q; omega)).1 hq
  · rw [if_pos (by omega)] at hq
    exact hq
theorem nd_0 (t : Nat) : nd (t + 1) 0 = nd t 0 + t + 1 := by
  have := nd_dn t 0
  omega
theorem k_greatestRate (hK : KQ σ ru W) (hq : Q (some (.int (jI (mxN W.ra (ru 1).toNat)))) σ) : MW l G (d + 2) mX11_greatestRate [.ref 0] σ Q := by
  have h12 := hK.ru
  have hg := hK.2.2.2.2.2.2.2.2.2.2.1
  have key : ∀ (n T h : Nat) (m u : Int32), nd T h + n = nd (ru 1).toNat 0 → h ≤ T → T ≤ (ru 1).toNat → (T = (ru 1).toNat → h = 0) → m = jI (max (mxN W.ra T) (mxR (W.ra T) h)) → u = jI (nd T h : Nat) → Wp l G (d + 2) mX11_greatestRate 4 [(0, .ref 0), (1, .int m), (2, .int u)] [] σ Q := by
    intro n
    have hN := nd_lt (t := (ru 1).toNat) (h := 0) (by omega) (by omega)
    induction n with
    | zero =>
      intro T h m u hn hh hT he hm hu
      obtain ⟨rfl, rfl⟩ : T = (ru 1).toNat ∧ h = 0 := nd_inj hh (by omega) (by omega)
      refine wX11_greatestRate [] 60 ?_
      refine ldI 14 1 h12.1 ?_
      refine k_nodeOf (ru 1).toNat 0 ?_ (by congr 1; omega)
      refine brle (nd (ru 1).toNat 0 : Nat) (nd (ru 1).toNat 0 : Nat) (fun _ => ?_) (fun q => by omega)
      have b1 := mxN_in hg (ru 1).toNat
      have : max (mxN W.ra (ru 1).toNat) (mxR (W.ra (ru 1).toNat) 0) = mxN W.ra (ru 1).toNat := by
        show max _ (0 : Int) = _
        omega
      rw [this] at hm
      rw [hm]
      exact hq
    | succ n ih =>
      intro T h m u hn hh hT he hm hu
      have hT' : T < (ru 1).toNat := by
        by_cases z : T = (ru 1).toNat
        · have := he z
          subst z; subst this
          omega
        · omega
      have hn2 := nd_lt2 (t := T) (h := h) (by omega) hh
      have b1 := mxN_in hg T
      have b2 := mxR_in (hg T) h
      have b3 := hg T h
      refine wX11_greatestRate [(4, [0, 1, 2])] 60 ?_
      refine ldI 14 1 h12.1 ?_
      refine k_nodeOf (ru 1).toNat 0 ?_ (by congr 1; omega)
      refine brle (nd (ru 1).toNat 0 : Nat) (nd T h : Nat) (fun q => by omega) (fun _ => ?_)
      refine ldI 115 (25 + nd T h) (hK.1.rate (by omega) hh) ?_ (hi := by rw [hu]; first | rfl | assumption | (simp only [jlit, jneg, jadd, jsub, jmul]; done) | (simp only [jlit, jneg, jadd, jsub, jmul]; congr 1 <;> omega) | (congr 1 <;> omega))
      have em : (if m < jI (W.ra T h) then jI (W.ra T h) else m) = jI (max (mxN W.ra T) (mxR (W.ra T) (h + 1))) := by
        show _ = jI (max (mxN W.ra T) (max (mxR (W.ra T) h) (W.ra T h)))
        rw [hm]
        by_cases z : max (mxN W.ra T) (mxR (W.ra T) h) < W.ra T h
        · rw [if_pos ((jlt (by omega) (by omega)).mpr z)]
          congr 1
          omega
        · rw [if_neg (fun w => z ((jlt (by omega) (by omega)).mp w))]
          congr 1
          omega
      by_cases z : h = T
      · subst z
        have hd := nd_0 h
        have hn3 : nd h h = nd h 0 + h := rfl
        refine ih (h + 1) 0 _ _ (by omega) (by omega) (by omega) (fun _ => rfl) ?_ (by rw [hu]; first | rfl | assumption | (simp only [jlit, jneg, jadd, jsub, jmul]; done) | (simp only [jlit, jneg, jadd, jsub, jmul]; congr 1 <;> omega) | (congr 1 <;> omega))
        rw [em]
        show jI (max (mxN W.ra h) (mxR (W.ra h) (h + 1))) = jI (max (max (mxN W.ra h) (mxR (W.ra h) (h + 1))) 0)
        congr 1
        omega
      · have hn3 : nd T (h + 1) = nd T h + 1 := rfl
        exact ih T (h + 1) _ _ (by omega) (by omega) (by omega) (fun z => by omega) em (by rw [hu]; first | rfl | assumption | (simp only [jlit, jneg, jadd, jsub, jmul]; done) | (simp only [jlit, jneg, jadd, jsub, jmul]; congr 1 <;> omega) | (congr 1 <;> omega))
  refine vX11_greatestRate [(4, [0, 1, 2])] 60 ?_
  refine key (nd (ru 1).toNat 0) 0 0 _ _ (by show 0 + _ = _; omega) (by omega) (by omega) (fun _ => rfl) rfl rfl
theorem k_most {x : Int32} (i : Int) (hK : KQ σ ru W) (ri : R31 i) (hq : ∀ τ, QK σ τ → CI τ ru → Q (some (.int (jI (aMost ru W i)))) τ) (ex : x = jI i := by first | rfl | assumption | (simp only [jlit, jneg, jadd, jsub, jmul]; done) | (simp only [jlit, jneg, jadd, jsub, jmul]; congr 1 <;> omega) | (congr 1 <;> omega)) : MW l G (d + 5) mX11_most [.ref 0, .int x] σ Q := by
  have xi : x.toInt = i := by rw [ex]; exact jI_T ri
  have R := hK.1.1
  have q0 := hq σ QK.rf hK.2.1
  have no : ¬ (0 ≤ i ∧ i ≤ 11) → Q (some (.int (-1000000))) σ := fun z => by
    unfold aMost at q0
    rw [if_neg (by omega), if_neg (by omega), if_neg (by omega), if_neg (by omega), if_neg (by omega), if_neg (by omega), if_neg (by omega), if_neg (by omega), if_neg (by omega), if_neg (by omega), if_neg (by omega), if_neg (by omega)] at q0
    exact q0
  refine vX11_most [] 60 ?_
  refine k_loan hK ?_
  refine And.intro (fun _ => ?_) (fun q => absurd rfl q)
  refine brlt i 0 (fun q => no (by omega)) (fun q1 => ?_)
  refine brle i 11 (fun q2 => ?_) (fun q => no (by omega))
  refine ⟨⟨fun e => ?_, fun e => ?_, fun e => ?_, fun e => ?_, fun e => ?_, fun e => ?_, fun e => ?_, fun e => ?_, fun e => ?_, fun e => ?_, fun e => ?_, trivial⟩, fun e => ?_⟩
  · obtain rfl : i = 0 := by omega
    exact ldI 115 6 (R 6 (by omega)) q0
  · obtain rfl : i = 1 := by omega
    exact ldI 115 7 (R 7 (by omega)) q0
  · obtain rfl : i = 2 := by omega
    exact ldI 115 8 (R 8 (by omega)) q0
  · obtain rfl : i = 3 := by omega
    exact ldI 115 9 (R 9 (by omega)) q0
  · obtain rfl : i = 4 := by omega
    exact ldI 115 0 (R 0 (by omega)) q0
  · obtain rfl : i = 5 := by omega
    exact ldI 115 1 (R 1 (by omega)) q0
  · obtain rfl : i = 6 := by omega
    exact k_leftNow hK hq
  · obtain rfl : i = 7 := by omega
    exact ldI 115 11 (R 11 (by omega)) q0
  · obtain rfl : i = 8 := by omega
    exact ldI 115 4 (R 4 (by omega)) q0
  · obtain rfl : i = 9 := by omega
    exact ldI 115 5 (R 5 (by omega)) q0
  · obtain rfl : i = 10 := by omega
    exact ldI 115 10 (R 10 (by omega)) q0
  · have e : x.toInt < 0 ∨ 10 < x.toInt := e
    obtain rfl : i = 11 := by omega
    exact k_greatestRate hK q0
theorem k_sums {x : Int32} (w : Int) (hK : KQ σ ru W) (rw' : R31 w) (hq : ∀ τ, QK σ τ → CI τ ru → Q (some (.int (jI (aSums ru W w)))) τ) (ex : x = jI w := by first | rfl | assumption | (simp only [jlit, jneg, jadd, jsub, jmul]; done) | (simp only [jlit, jneg, jadd, jsub, jmul]; congr 1 <;> omega) | (congr 1 <;> omega)) : MW l G (d + 4) mX11_sums [.ref 0, .int x] σ Q := by
  have h12 := hK.ru
  have hr := hK.2.1.1.1
  obtain ⟨hr3, r2, ht, hh, hht, h6, h6t, bc⟩ := hK.r
  unfold aSums at hq
  have no : W.f 6 = 1 ∨ ¬ (0 ≤ w ∧ w ≤ 1) → Q (some (.int (-1))) σ := fun z => by
    rw [if_pos z] at hq
    exact hq σ QK.rf hK.2.1
  refine vX11_sums [(41, [0, 1, 2, 3])] 60 ?_
  refine k_over hK ?_
  refine brz _ (fun q => ?_) (fun q => no (Or.inl q))
  refine brlt w 0 (fun z => no (by omega)) (fun q1 => ?_)
  refine brle w 1 (fun q2 => ?_) (fun z => no (by omega))
  rw [if_neg (by omega)] at hq
  have hT := h6t (by omega)
  refine k_lookN hK (fun τ F C L => ?_)
  have K1 := hK.fr F C
  have hq := hq τ F C
  have key : ∀ (n i : Nat) (u v : Int32), i + n = (ru 1).toNat - W.t → u = jI (sumY (fun t => if w = 0 then zi ru W.am (W.f 2) t else zp ru W.am t) (W.t + 1) i) → v = jI ((W.t + 1 + i : Nat) : Int) → Wp l G (d + 4) mX11_sums 41 [(0, .ref 0), (1, .int x), (2, .int u), (3, .int v)] [] τ Q := by
    intro n
    induction n with
    | zero =>
      intro i u v hn hu hv
      refine wX11_sums [] 60 ?_
      refine ldI 14 1 K1.ru.1 ?_
      refine brlt (ru 1) ((W.t + 1 + i : Nat) : Int) (fun _ => ?_) (fun z => by omega)
      rw [show (ru 1).toNat - W.t = i by omega, ← hu] at hq
      exact hq
    | succ n ih =>
      intro i u v hn hu hv
      refine wX11_sums [(41, [0, 1, 2, 3])] 60 ?_
      refine ldI 14 1 K1.ru.1 ?_
      refine brlt (ru 1) ((W.t + 1 + i : Nat) : Int) (fun z => by omega) (fun _ => ?_)
      refine breq w 0 (fun z => ?_) (fun z => ?_)
      · refine ldI 115 2 (K1.1.1 2 (by omega)) ?_
        refine k_interestOf (W.t + 1 + i) (W.f 2) hr L (by omega) (by omega) bc ?_
        refine ih (i + 1) _ _ (by omega) ?_ (by rw [hv]; first | rfl | assumption | (simp only [jlit, jneg, jadd, jsub, jmul]; done) | (simp only [jlit, jneg, jadd, jsub, jmul]; congr 1 <;> omega) | (congr 1 <;> omega))
        rw [hu, jadd]
        show _ = jI (sumY _ _ i + (if w = 0 then zi ru W.am (W.f 2) (W.t + 1 + i) else zp ru W.am (W.t + 1 + i)))
        rw [if_pos z]
      · refine ldI 13 (W.t + 1 + i) ((L.2 (W.t + 1 + i) (by omega)).2.1 (by omega)) ?_
        refine ih (i + 1) _ _ (by omega) ?_ (by rw [hv]; first | rfl | assumption | (simp only [jlit, jneg, jadd, jsub, jmul]; done) | (simp only [jlit, jneg, jadd, jsub, jmul]; congr 1 <;> omega) | (congr 1 <;> omega))
        rw [hu, jadd]
        show _ = jI (sumY _ _ i + (if w = 0 then zi ru W.am (W.f 2) (W.t + 1 + i) else zp ru W.am (W.t + 1 + i)))
        rw [if_neg z]
  refine ldI 115 0 (show _ = jI (W.t : Int) by rw [ht]; exact K1.1.1 0 (by omega)) ?_
  exact key ((ru 1).toNat - W.t) 0 _ _ (by omega) rfl (by first | rfl | assumption | (simp only [jlit, jneg, jadd, jsub, jmul]; done) | (simp only [jlit, jneg, jadd, jsub, jmul]; congr 1 <;> omega) | (congr 1 <;> omega))
end KQ3
