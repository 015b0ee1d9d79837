-- the reference: year, sums, most
def mxR (g : Nat → Int) : Nat → Int
  | 0 => 0
  | n + 1 => max (mxR g n) (g n)
def mxN (g : Nat → Nat → Int) : Nat → Int
  | 0 => 0
  | T + 1 => max (mxN g T) (mxR (g T) (T + 1))
theorem mxR_in {g : Nat → Int} (hg : ∀ h, 0 ≤ g h ∧ g h ≤ 999) : ∀ n, 0 ≤ mxR g n ∧ mxR g n ≤ 999
  | 0 => show (0 : Int) ≤ 0 ∧ (0 : Int) ≤ 999 by decide
  | n + 1 => by
    have h1 := mxR_in hg n
    have h2 := hg n
    show 0 ≤ max (mxR g n) (g n) ∧ max (mxR g n) (g n) ≤ 999
    omega
theorem mxN_in {g : Nat → Nat → Int} (hg : ∀ t h, 0 ≤ g t h ∧ g t h ≤ 999) : ∀ T, 0 ≤ mxN g T ∧ mxN g T ≤ 999
  | 0 => show (0 : Int) ≤ 0 ∧ (0 : Int) ≤ 999 by decide
  | T + 1 => by
    have h1 := mxN_in hg T
    have h2 := mxR_in (hg T) (T + 1)
    show 0 ≤ max (mxN g T) (mxR (g T) (T + 1)) ∧ max (mxN g T) (mxR (g T) (T + 1)) ≤ 999
    omega
def aMost (ru : Nat → Int) (W : Wk) (i : Int) : Int := if i = 0 then W.f 7 else if i = 1 then W.f 8 else if i = 2 then W.f 9 else if i = 3 then W.f 10 else if i = 4 then W.f 0 else if i = 5 then W.f 1 else if i = 6 then (if W.f 6 = 1 then 0 else zl ru W.am W.t) else if i = 7 then W.f 6 else if i = 8 then W.f 4 else if i = 9 then W.f 5 else if i = 10 then W.f 11 else if i = 11 then mxN W.ra (ru 1).toNat else -1000000
def aSums (ru : Nat → Int) (W : Wk) (w : Int) : Int := if W.f 6 = 1 ∨ ¬ (0 ≤ w ∧ w ≤ 1) then -1 else sumY (fun t => if w = 0 then zi ru W.am (W.f 2) t else zp ru W.am t) (W.t + 1) ((ru 1).toNat - W.t)
section MQ3
variable {l : Launch} {G : GT} {d : Nat} {σ : Mm} {Q : Po} {ru : Nat → Int} {W : Wk}
theorem c_laysYearsN (hM : RM σ ru W) (hq : ∀ τ, Qf σ τ → LY τ ru W.am → Q none τ) : MW l G d mX12_laysYears [.ref 98, .ref 108] σ Q := by
  have hW := hM.2.2.2.2
  unfold WB at hW
  exact c_laysYears hM.2.1.1 hM.2.1.2 (by decide) (by decide) (fun j => (hW.2.2.2.2.2.2.2.1 j).1) (fun j hj => ⟨hM.2.2.1.2.1 j hj, (hW.2.2.2.2.2.2.2.1 j).2⟩) (fun τ f h => hq τ (Qf.rf.ly f) h)
theorem c_year {x y : Int32} (t w : Int) (hM : RM σ ru W) (rt : R31 t) (rw' : R31 w) (hq : ∀ τ, Qf σ τ → Q (some (.int (jI (aYear ru W t w)))) τ) (ex : x = jI t := by first | rfl | assumption | (simp only [jlit, jneg, jadd, jsub, jmul]; done) | (simp only [jlit, jneg, jadd, jsub, jmul]; congr 1 <;> omega) | (congr 1 <;> omega)) (ey : y = jI w := by first | rfl | assumption | (simp only [jlit, jneg, jadd, jsub, jmul]; done) | (simp only [jlit, jneg, jadd, jsub, jmul]; congr 1 <;> omega) | (congr 1 <;> omega)) : MW l G (d + 2) mX12_year [.ref 98, .int x, .int y] σ Q := by
  have f0 : Qf σ (uI σ 98 0 0) := Qf.rf.u8 (by decide)
  have M0 := hM.fr f0
  have hr := hM.2.1.1
  have hr' := hr
  unfold RB at hr'
  have hW := hM.2.2.2.2
  unfold WB at hW
  have yw : y.toInt = w := by rw [ey]; exact jI_T rw'
  unfold aYear at hq
  have no : ¬ ((0 ≤ w ∧ w ≤ 4) ∧ (if w < 3 then 1 else 0) ≤ t ∧ t ≤ ru 1) → Q (some (.int (-1))) (uI σ 98 0 0) := fun q => by
    have hq := hq _ f0
    rw [if_neg q] at hq
    exact hq
  have ok : (0 ≤ w ∧ w ≤ 4) ∧ (if w < 3 then 1 else 0) ≤ t ∧ t ≤ ru 1 → Wp l G (d + 2) mX12_year 51 [(0, .ref 98), (1, .int x), (2, .int y)] [] (uI σ 98 0 0) Q := by
    intro q
    rw [if_pos q] at hq
    obtain ⟨n, rfl⟩ : ∃ n : Nat, t = (n : Int) := ⟨t.toNat, by split at q <;> omega⟩
    rw [show (n : Int).toNat = n from Int.toNat_natCast n] at hq
    refine wX12_year [] 60 ?_
    refine c_laysYearsN M0 (fun τ F L => ?_)
    have hq := hq τ (f0.tr F)
    have M1 := M0.fr F
    have Ln := L.2 n (by omega)
    refine ⟨⟨fun e => ?_, fun e => ?_, fun e => ?_, fun e => ?_, trivial⟩, fun e => ?_⟩
    · rw [if_pos (by omega)] at hq
      exact ldI 13 n Ln.2.1 hq
    · rw [if_neg (by omega), if_pos (by omega)] at hq
      rw [if_pos (by omega)] at q
      refine ldI 494 2 (M1.2.2.1.1 2 (by omega)) ?_
      exact c_interest (W.f 2) n hr L (by omega) (by omega) hW.2.1 hq
    · rw [if_neg (by omega), if_neg (by omega), if_pos (by omega)] at hq
      rw [if_pos (by omega)] at q
      refine ldI 494 2 (M1.2.2.1.1 2 (by omega)) ?_
      exact c_due (W.f 2) n hr L (by omega) (by omega) hW.2.1 hq
    · rw [if_neg (by omega), if_neg (by omega), if_neg (by omega), if_pos (by omega)] at hq
      exact ldI 13 n Ln.1 hq
    · have e : y.toInt < 0 ∨ 3 < y.toInt := e
      rw [if_neg (by omega), if_neg (by omega), if_neg (by omega), if_neg (by omega)] at hq
      exact ldI 13 n Ln.2.2 hq
  refine vX12_year [(51, [0, 1, 2])] 60 ?_
  refine And.intro (fun q => absurd (M0.1.symm.trans q) (by decide)) (fun _ => ?_)
  refine brle 3 w (fun q => ?_) (fun q => ?_)
  · refine ldI 14 1 (M0.2.1.2 1 (by omega)) ?_
    refine c_isIn t 0 (ru 1) ?_ (by rw [ex, jI_L rt]) rfl (by rw [jI_L (by omega)])
    refine brz _ (fun q2 => no (by rw [if_neg (by omega)]; omega)) (fun q2 => ?_)
    refine c_isIn w 0 4 ?_ (by rw [ey, jI_L rw'])
    exact brz _ (fun q3 => no (by omega)) (fun q3 => ok ⟨q3, by rw [if_neg (by omega)]; omega⟩)
  · refine ldI 14 1 (M0.2.1.2 1 (by omega)) ?_
    refine c_isIn t 1 (ru 1) ?_ (by rw [ex, jI_L rt]) rfl (by rw [jI_L (by omega)])
    refine brz _ (fun q2 => no (by rw [if_pos (by omega)]; omega)) (fun q2 => ?_)
    refine c_isIn w 0 4 ?_ (by rw [ey, jI_L rw'])
    exact brz _ (fun q3 => no (by omega)) (fun q3 => ok ⟨q3, by rw [if_pos (by omega)]; omega⟩)
theorem c_leftNow (hM : RM σ ru W) (hq : ∀ τ, Qf σ τ → Q (some (.int (jI (if W.f 6 = 1 then 0 else zl ru W.am W.t)))) τ) : MW l G (d + 1) mX12_leftNow [.ref 98] σ Q := by
  have hr' := hM.2.1.1
  unfold RB at hr'
  have hW := hM.2.2.2.2
  unfold WB at hW
  obtain ⟨hr3, r2, ht, hh, hht⟩ := hM.r
  refine vX12_leftNow [] 60 ?_
  refine c_laysYearsN hM (fun τ F L => ?_)
  have M1 := hM.fr F
  have hq := hq τ F
  refine ldI 494 6 (M1.2.2.1.1 6 (by omega)) ?_
  refine breq (W.f 6) 1 (fun q => ?_) (fun q => ?_)
  · rw [if_pos q] at hq
    exact hq
  · rw [if_neg q] at hq
    refine ldI 494 0 (show _ = jI (W.t : Int) by rw [ht]; exact M1.2.2.1.1 0 (by omega)) ?_
    exact ldI 13 W.t (L.2 W.t (by omega)).1 hq
theorem c_highest (hM : RM σ ru W) (hq : Q (some (.int (jI (mxN W.ra (ru 1).toNat)))) σ) : MW l G (d + 2) mX12_highest [.ref 98] σ Q := by
  have hr' := hM.2.1.1
  unfold RB at hr'
  have hW := hM.2.2.2.2
  unfold WB at hW
  have e7 : uI σ 98 27 0 = σ := uI_id hM.2.2.2.1
  have hg := hW.2.2.2.2.2.2.2.2.1
  have inner : ∀ (n T h : Nat) (m u v : Int32), h + n = T + 1 → (T : Int) < ru 1 → m = jI (max (mxN W.ra T) (mxR (W.ra T) h)) → u = jI (T : Int) → v = jI (h : Int) → (∀ m' v', m' = jI (mxN W.ra (T + 1)) → Wp l G (d + 2) mX12_highest 57 [(0, .ref 98), (1, .int m'), (2, .int u), (3, .int v')] [] σ Q) → Wp l G (d + 2) mX12_highest 21 [(0, .ref 98), (1, .int m), (2, .int u), (3, .int v)] [] σ Q := by
    intro n T
    induction n with
    | zero =>
      intro h m u v hn hT hm hu hv hk
      refine wX12_highest [(57, [0, 1, 2, 3])] 60 ?_
      refine brlt (T : Int) (h : Int) (fun _ => ?_) (fun q => by omega)
      refine hk m v ?_
      rw [hm, show h = T + 1 by omega]
      rfl
    | succ n ih =>
      intro h m u v hn hT hm hu hv hk
      have b1 := mxN_in hg T
      have b2 := mxR_in (hg T) h
      have b3 := hg T h
      refine wX12_highest [(21, [0, 1, 2, 3])] 60 ?_
      refine brlt (T : Int) (h : Int) (fun q => by omega) (fun _ => ?_)
      refine c_rateOf T h hM.pm hT (by omega) ?_
      refine brle (W.ra T h) (max (mxN W.ra T) (mxR (W.ra T) h)) (fun q => ?_) (fun q => ?_)
      · refine ih (h + 1) _ _ _ (by omega) hT ?_ hu (by rw [hv]; first | rfl | assumption | (simp only [jlit, jneg, jadd, jsub, jmul]; done) | (simp only [jlit, jneg, jadd, jsub, jmul]; congr 1 <;> omega) | (congr 1 <;> omega)) hk
        rw [hm]
        show _ = jI (max (mxN W.ra T) (max (mxR (W.ra T) h) (W.ra T h)))
        congr 1
        omega
      · refine c_rateOf T h hM.pm hT (by omega) ?_
        refine ih (h + 1) _ _ _ (by omega) hT ?_ hu (by rw [hv]; first | rfl | assumption | (simp only [jlit, jneg, jadd, jsub, jmul]; done) | (simp only [jlit, jneg, jadd, jsub, jmul]; congr 1 <;> omega) | (congr 1 <;> omega)) hk
        show _ = jI (max (mxN W.ra T) (max (mxR (W.ra T) h) (W.ra T h)))
        congr 1
        omega
  have outer : ∀ (n T : Nat) (m u : Int32), T + n = (ru 1).toNat → m = jI (mxN W.ra T) → u = jI (T : Int) → Wp l G (d + 2) mX12_highest 9 [(0, .ref 98), (1, .int m), (2, .int u)] [] σ Q := by
    intro n
    induction n with
    | zero =>
      intro T m u hn hm hu
      refine wX12_highest [] 60 ?_
      refine ldI 14 1 (hM.2.1.2 1 (by omega)) ?_
      refine brle (ru 1) (T : Int) (fun _ => ?_) (fun q => by omega)
      rw [show (ru 1).toNat = T by omega, ← hm] at hq
      exact hq
    | succ n ih =>
      intro T m u hn hm hu
      refine wX12_highest [(21, [0, 1, 2, 3])] 60 ?_
      refine ldI 14 1 (hM.2.1.2 1 (by omega)) ?_
      refine brle (ru 1) (T : Int) (fun q => by omega) (fun _ => ?_)
      have b1 := mxN_in hg T
      refine inner (T + 1) T 0 m u _ (by omega) (by omega) ?_ hu rfl (fun m' v' hm' => ?_)
      · rw [hm]
        show _ = jI (max (mxN W.ra T) 0)
        congr 1
        omega
      · refine wX12_highest [(9, [0, 1, 2])] 60 ?_
        exact ih (T + 1) _ _ (by omega) hm' (by rw [hu]; first | rfl | assumption | (simp only [jlit, jneg, jadd, jsub, jmul]; done) | (simp only [jlit, jneg, jadd, jsub, jmul]; congr 1 <;> omega) | (congr 1 <;> omega))
  refine vX12_highest [(9, [0, 1, 2])] 60 ?_
  have := outer (ru 1).toNat 0 _ _ (by omega) rfl rfl
  rw [← e7] at this
  exact this
theorem c_most {x : Int32} (i : Int) (hM : RM σ ru W) (ri : R31 i) (hq : ∀ τ, Qf σ τ → Q (some (.int (jI (aMost ru W i)))) τ) (ex : x = jI i := by first | rfl | assumption | (simp only [jlit, jneg, jadd, jsub, jmul]; done) | (simp only [jlit, jneg, jadd, jsub, jmul]; congr 1 <;> omega) | (congr 1 <;> omega)) : MW l G (d + 3) mX12_most [.ref 98, .int x] σ Q := by
  have f0 : Qf σ (uI σ 98 0 0) := Qf.rf.u8 (by decide)
  have M0 := hM.fr f0
  have xi : x.toInt = i := by rw [ex]; exact jI_T ri
  have R := M0.2.2.1.1
  refine vX12_most [] 60 ?_
  refine And.intro (fun q => absurd (M0.1.symm.trans q) (by decide)) (fun _ => ?_)
  refine ⟨⟨fun e => ?_, fun e => ?_, fun e => ?_, fun e => ?_, fun e => ?_, fun e => ?_, fun e => ?_, fun e => ?_, fun e => ?_, fun e => ?_, fun e => ?_, fun e => ?_, trivial⟩, fun e => ?_⟩
  · obtain rfl : i = 0 := by omega
    exact ldI 494 7 (R 7 (by omega)) (hq _ f0)
  · obtain rfl : i = 1 := by omega
    exact ldI 494 8 (R 8 (by omega)) (hq _ f0)
  · obtain rfl : i = 2 := by omega
    exact ldI 494 9 (R 9 (by omega)) (hq _ f0)
  · obtain rfl : i = 3 := by omega
    exact ldI 494 10 (R 10 (by omega)) (hq _ f0)
  · obtain rfl : i = 4 := by omega
    exact ldI 494 0 (R 0 (by omega)) (hq _ f0)
  · obtain rfl : i = 5 := by omega
    exact ldI 494 1 (R 1 (by omega)) (hq _ f0)
  · obtain rfl : i = 6 := by omega
    exact c_leftNow M0 (fun τ F => hq τ (f0.tr F))
  · obtain rfl : i = 7 := by omega
    exact ldI 494 6 (R 6 (by omega)) (hq _ f0)
  · obtain rfl : i = 8 := by omega
    exact ldI 494 4 (R 4 (by omega)) (hq _ f0)
  · obtain rfl : i = 9 := by omega
    exact ldI 494 5 (R 5 (by omega)) (hq _ f0)
  · obtain rfl : i = 10 := by omega
    exact ldI 494 11 (R 11 (by omega)) (hq _ f0)
  · obtain rfl : i = 11 := by omega
    exact c_highest M0 (hq _ f0)
  · have e : x.toInt < 0 ∨ 11 < x.toInt := e
    have hq := hq _ f0
    unfold aMost at hq
    rw [if_neg (by omega), if_neg (by omega), if_neg (by omega), if_neg (by omega), if_neg (by omega), if_neg (by omega), if_neg (by omega), if_neg (by omega), if_neg (by omega), if_neg (by omega), if_neg (by omega), if_neg (by omega)] at hq
    exact hq
theorem c_sums {x : Int32} (w : Int) (hM : RM σ ru W) (rw' : R31 w) (hq : ∀ τ, Qf σ τ → Q (some (.int (jI (aSums ru W w)))) τ) (ex : x = jI w := by first | rfl | assumption | (simp only [jlit, jneg, jadd, jsub, jmul]; done) | (simp only [jlit, jneg, jadd, jsub, jmul]; congr 1 <;> omega) | (congr 1 <;> omega)) : MW l G (d + 2) mX12_sums [.ref 98, .int x] σ Q := by
  have f0 : Qf σ (uI σ 98 0 0) := Qf.rf.u8 (by decide)
  have M0 := hM.fr f0
  have hr := hM.2.1.1
  have hr' := hr
  unfold RB at hr'
  have hW := hM.2.2.2.2
  unfold WB at hW
  obtain ⟨hr3, r2, ht, hh, hht⟩ := hM.r
  unfold aSums at hq
  refine vX12_sums [(47, [0, 1, 2, 3])] 60 ?_
  refine c_over M0 ?_
  refine brz _ (fun q => ?_) (fun q => ?_)
  · refine c_isIn w 0 1 ?_ (by rw [ex, jI_L rw'])
    refine brz _ (fun q2 => ?_) (fun q2 => ?_)
    · rw [if_pos (Or.inr q2)] at hq
      exact hq _ f0
    · rw [if_neg (fun z => z.elim q (fun v => v q2))] at hq
      refine c_laysYearsN M0 (fun τ F L => ?_)
      have M1 := M0.fr F
      have hq := hq τ (f0.tr F)
      have key : ∀ (n i : Nat) (u v : Int32), i + n = (ru 1).toNat - W.t → u = jI (sumY (fun t => if w = 0 then zi ru W.am (W.f 2) t else zp ru W.am t) (W.t + 1) i) → v = jI ((W.t + 1 + i : Nat) : Int) → Wp l G (d + 2) mX12_sums 47 [(0, .ref 98), (1, .int x), (2, .int u), (3, .int v)] [] τ Q := by
        intro n
        induction n with
        | zero =>
          intro i u v hn hu hv
          refine wX12_sums [] 60 ?_
          refine ldI 14 1 (M1.2.1.2 1 (by omega)) ?_
          refine brlt (ru 1) ((W.t + 1 + i : Nat) : Int) (fun _ => ?_) (fun z => by omega)
          rw [show (ru 1).toNat - W.t = i by omega, ← hu] at hq
          exact hq
        | succ n ih =>
          intro i u v hn hu hv
          refine wX12_sums [(47, [0, 1, 2, 3])] 60 ?_
          refine ldI 14 1 (M1.2.1.2 1 (by omega)) ?_
          refine brlt (ru 1) ((W.t + 1 + i : Nat) : Int) (fun z => by omega) (fun _ => ?_)
          refine breq w 0 (fun z => ?_) (fun z => ?_)
          · refine ldI 494 2 (M1.2.2.1.1 2 (by omega)) ?_
            refine c_interest (W.f 2) (W.t + 1 + i) hr L (by omega) (by omega) hW.2.1 ?_
            refine ih (i + 1) _ _ (by omega) ?_ (by rw [hv]; first | rfl | assumption | (simp only [jlit, jneg, jadd, jsub, jmul]; done) | (simp only [jlit, jneg, jadd, jsub, jmul]; congr 1 <;> omega) | (congr 1 <;> omega))
            rw [hu, jadd]
            show _ = jI (sumY _ _ i + (if w = 0 then zi ru W.am (W.f 2) (W.t + 1 + i) else zp ru W.am (W.t + 1 + i)))
            rw [if_pos z]
          · refine ldI 13 (W.t + 1 + i) (L.2 (W.t + 1 + i) (by omega)).2.1 ?_
            refine ih (i + 1) _ _ (by omega) ?_ (by rw [hv]; first | rfl | assumption | (simp only [jlit, jneg, jadd, jsub, jmul]; done) | (simp only [jlit, jneg, jadd, jsub, jmul]; congr 1 <;> omega) | (congr 1 <;> omega))
            rw [hu, jadd]
            show _ = jI (sumY _ _ i + (if w = 0 then zi ru W.am (W.f 2) (W.t + 1 + i) else zp ru W.am (W.t + 1 + i)))
            rw [if_neg z]
      refine ldI 494 0 (show _ = jI (W.t : Int) by rw [ht]; exact M1.2.2.1.1 0 (by omega)) ?_
      exact key ((ru 1).toNat - W.t) 0 _ _ (by omega) rfl (by first | rfl | assumption | (simp only [jlit, jneg, jadd, jsub, jmul]; done) | (simp only [jlit, jneg, jadd, jsub, jmul]; congr 1 <;> omega) | (congr 1 <;> omega))
  · rw [if_pos (Or.inl q)] at hq
    exact hq _ f0
end MQ3
