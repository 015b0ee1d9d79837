section ML3
variable {l : Launch} {G : GT} {d : Nat} {σ : Mm} {Q : Po} {ru am : Nat → Int} {ra : Nat → Nat → Int} {w T : Nat}
theorem c_mayEnd {y : Int32} (t : Int) (hr : RB ru) (hru : ∀ k, k < 14 → σ.1 101 k = jI (ru k)) (ht : 0 ≤ t ∧ t ≤ 100) (hq : Q (some (.int (if ru 9 ≤ t ∧ t + ru 10 < ru 1 then 1 else 0))) σ) (ey : y = jI t := by first | rfl | assumption | (simp only [jlit, jneg, jadd, jsub, jmul]; done) | (simp only [jlit, jneg, jadd, jsub, jmul]; congr 1 <;> omega) | (congr 1 <;> omega)) : MW l G d mX12_mayEnd [.ref 98, .int y] σ Q := by
  unfold RB at hr
  subst ey
  refine vX12_mayEnd [] 60 ?_
  refine ldI 14 9 (hru 9 (by omega)) ?_
  refine brlt t (ru 9) (fun h1 => ?_) (fun h1 => ?_)
  · rw [if_neg (by omega)] at hq
    exact And.intro (Or.inl rfl) hq
  · refine ldI 14 10 (hru 10 (by omega)) ?_
    refine ldI 14 1 (hru 1 (by omega)) ?_
    refine brle (ru 1) (t + ru 10) (fun h2 => ?_) (fun h2 => ?_)
    · rw [if_neg (by omega)] at hq
      exact And.intro (Or.inl rfl) hq
    · rw [if_pos (by omega)] at hq
      exact And.intro (Or.inr rfl) hq
theorem c_may {x y z : Int32} (dd r t : Int) (hr : RB ru) (hru : ∀ k, k < 14 → σ.1 101 k = jI (ru k)) (ht : 0 ≤ t ∧ t ≤ 100) (hd : 0 ≤ dd ∧ dd ≤ 3) (hr2 : 0 ≤ r ∧ r ≤ 2) (hq : Q (some (.int (if dd = 0 ∨ ((ru 9 ≤ t ∧ t + ru 10 < ru 1) ∧ (dd = 1 ∨ 0 < r)) then 1 else 0))) σ) (ex : x = jI dd := by first | rfl | assumption | (simp only [jlit, jneg, jadd, jsub, jmul]; done) | (simp only [jlit, jneg, jadd, jsub, jmul]; congr 1 <;> omega) | (congr 1 <;> omega)) (ey : y = jI r := by first | rfl | assumption | (simp only [jlit, jneg, jadd, jsub, jmul]; done) | (simp only [jlit, jneg, jadd, jsub, jmul]; congr 1 <;> omega) | (congr 1 <;> omega)) (ez : z = jI t := by first | rfl | assumption | (simp only [jlit, jneg, jadd, jsub, jmul]; done) | (simp only [jlit, jneg, jadd, jsub, jmul]; congr 1 <;> omega) | (congr 1 <;> omega)) : MW l G (d + 1) mX12_may [.ref 98, .int x, .int y, .int z] σ Q := by
  refine vX12_may [] 60 ?_
  refine breq dd 0 (fun h1 => ?_) (fun h1 => ?_) ex
  · rw [if_pos (by omega)] at hq
    exact And.intro (Or.inr rfl) hq
  · refine c_mayEnd t hr hru ht ?_ ez
    refine brz inferInstance (fun h2 => ?_) (fun h2 => ?_)
    · rw [if_neg (by omega)] at hq
      exact And.intro (Or.inl rfl) hq
    · refine breq dd 1 (fun h3 => ?_) (fun h3 => ?_) ex
      · rw [if_pos (by omega)] at hq
        exact And.intro (Or.inr rfl) hq
      · refine brle r 0 (fun h4 => ?_) (fun h4 => ?_) ey
        · rw [if_neg (by omega)] at hq
          exact And.intro (Or.inl rfl) hq
        · rw [if_pos (by omega)] at hq
          exact And.intro (Or.inr rfl) hq
theorem c_costBy {k x y c z u : Int32} (dd r b t h : Nat) (cp : Int) (B N : Nat → Nat → Int) (hP : PM σ w ru ra) (hL : LY σ ru am) (hT : lenJ T = 62640) (hr2 : r ≤ 2) (hb : b ≤ 144) (ht : (t : Int) < ru 1) (hh : h ≤ t) (hc : 0 ≤ cp ∧ cp ≤ 999) (hB : TB σ T ru r b (t + 1) B) (hN : TN σ T ru r N) (hm : dd = 0 ∨ (t : Int) + ru 10 < ru 1 ∧ (dd = 1 ∨ dd = 2 ∧ 0 < r)) (hq : Q (some (.long (jL (zcd ru am ra cp B N dd t h)))) σ) (ek : k = jI dd := by first | rfl | assumption | (simp only [jlit, jneg, jadd, jsub, jmul]; done) | (simp only [jlit, jneg, jadd, jsub, jmul]; congr 1 <;> omega) | (congr 1 <;> omega)) (ex : x = jI r := by first | rfl | assumption | (simp only [jlit, jneg, jadd, jsub, jmul]; done) | (simp only [jlit, jneg, jadd, jsub, jmul]; congr 1 <;> omega) | (congr 1 <;> omega)) (ey : y = jI b := by first | rfl | assumption | (simp only [jlit, jneg, jadd, jsub, jmul]; done) | (simp only [jlit, jneg, jadd, jsub, jmul]; congr 1 <;> omega) | (congr 1 <;> omega)) (ec : c = jI cp := by first | rfl | assumption | (simp only [jlit, jneg, jadd, jsub, jmul]; done) | (simp only [jlit, jneg, jadd, jsub, jmul]; congr 1 <;> omega) | (congr 1 <;> omega)) (ez : z = jI t := by first | rfl | assumption | (simp only [jlit, jneg, jadd, jsub, jmul]; done) | (simp only [jlit, jneg, jadd, jsub, jmul]; congr 1 <;> omega) | (congr 1 <;> omega)) (eu : u = jI h := by first | rfl | assumption | (simp only [jlit, jneg, jadd, jsub, jmul]; done) | (simp only [jlit, jneg, jadd, jsub, jmul]; congr 1 <;> omega) | (congr 1 <;> omega)) : MW l G (d + 6) mX12_costBy [.ref 98, .ref w, .ref T, .int k, .int x, .int y, .int c, .int z, .int u] σ Q := by
  have hr := hP.1
  have hr' := hr
  unfold RB at hr'
  unfold zcd at hq
  refine vX12_costBy [] 60 ?_
  refine breq dd 0 (fun h1 => ?_) (fun h1 => ?_) ek
  · rw [if_pos h1] at hq
    exact c_held r b t h cp B hP hL hT hr2 hb ht hh hc hB hq ex ey ec ez eu
  · rw [if_neg h1] at hq
    have hn : ((ru 10).toNat : Int) = ru 10 := Int.toNat_of_nonneg (by omega)
    have h10 : (ru 10).toNat ≤ 2 := by omega
    obtain ⟨d0, hd0⟩ : ∃ d0, d + 5 = d0 + (ru 10).toNat + 3 := ⟨d + 2 - (ru 10).toNat, by omega⟩
    refine breq dd 1 (fun h2 => ?_) (fun h2 => ?_) ek
    · rw [if_pos h2] at hq
      refine ldI 14 10 (hP.2.2.1 10 (by omega)) ?_
      show MW l G (d + 5) _ _ _ _
      rw [hd0]
      refine c_paid N r cp true hP hL hT hr2 hc hN (fun q => by cases q) ex ec rfl (ru 10).toNat t h d0 _ _ _ _ (by omega) hh ?_ (by rw [hn]) ez eu
      simp only [if_true]
      exact hq
    · rw [if_neg h2] at hq
      refine ldI 14 10 (hP.2.2.1 10 (by omega)) ?_
      show MW l G (d + 5) _ _ _ _
      rw [hd0]
      refine c_paid N r cp false hP hL hT hr2 hc hN (fun q => by omega) ex ec rfl (ru 10).toNat t h d0 _ _ _ _ (by omega) hh ?_ (by rw [hn]) ez eu
      simp only [Bool.false_eq_true, if_false]
      exact hq
theorem zcd_in {cp : Int} {B N : Nat → Nat → Int} {dd : Int} {r b t h : Nat} (hP : PM σ w ru ra) (hL : LY σ ru am) (ht : (t : Int) < ru 1) (hh : h ≤ t) (hc : 0 ≤ cp ∧ cp ≤ 999) (hB : TB σ T ru r b (t + 1) B) (hN : TN σ T ru r N) (hm : dd = 0 ∨ (t : Int) + ru 10 < ru 1 ∧ (dd = 1 ∨ dd = 2 ∧ 0 < r)) : 0 ≤ zcd ru am ra cp B N dd t h ∧ zcd ru am ra cp B N dd t h ≤ 1075000000 := by
  have hr := hP.1
  have hr' := hr
  unfold RB at hr'
  have hra : ∀ t h : Nat, (t : Int) < ru 1 → h ≤ t → 0 ≤ ra t h := fun t h q1 q2 => (hP.ra q1 q2).1
  have hn : ((ru 10).toNat : Int) = ru 10 := Int.toNat_of_nonneg (by omega)
  unfold zcd
  split
  · have h3 := zd_in hr hL.1 hc.1 hc.2 (t + 1)
    obtain ⟨b1, b2, b3⟩ := hB (t + 1) (h + 1) (Nat.le_refl _) (by push_cast; omega) (by omega)
    obtain ⟨d1, d2, d3⟩ := hB (t + 1) h (Nat.le_refl _) (by push_cast; omega) (by omega)
    have := zn_in hr (hra t h ht hh) (a := zd ru am cp (t + 1) + B (t + 1) (h + 1)) (b := zd ru am cp (t + 1) + B (t + 1) h) (B := 1075000000) (by omega) (by omega) (by omega) (by omega)
    omega
  · split
    · have := zb_in (X := fun t _ => zpr ru am t) (A := 20000) hr hL.1 hra hc (ru 10).toNat t h (by omega) hh (fun h' _ _ => by have h1 := zl_in hr hL.1 (t + (ru 10).toNat); have h2 := zpr_in hr hL.1 (t + (ru 10).toNat); omega)
      omega
    · have := zb_in (X := fun t h => zpr ru am t - zl ru am t + ru 13 + N t h) (A := 1074000000) hr hL.1 hra hc (ru 10).toNat t h (by omega) hh (fun h' q1 q2 => by
        have h1 := zl_in hr hL.1 (t + (ru 10).toNat)
        have h2 := zpr_in hr hL.1 (t + (ru 10).toNat)
        obtain ⟨n1, n2⟩ := hN (by omega) (t + (ru 10).toNat) h' (by push_cast; omega) (by omega)
        omega)
      omega
theorem c_bestDeed {x y c z u : Int32} (r b t h : Nat) (cp : Int) (B N : Nat → Nat → Int) (hP : PM σ w ru ra) (hL : LY σ ru am) (hT : lenJ T = 62640) (hr2 : r ≤ 2) (hb : b ≤ 144) (ht : (t : Int) < ru 1) (hh : h ≤ t) (hc : 0 ≤ cp ∧ cp ≤ 999) (hB : TB σ T ru r b (t + 1) B) (hN : TN σ T ru r N) (hq : Q (some (.int (jI (zbd ru am ra cp B N r t h)))) σ) (ex : x = jI r := by first | rfl | assumption | (simp only [jlit, jneg, jadd, jsub, jmul]; done) | (simp only [jlit, jneg, jadd, jsub, jmul]; congr 1 <;> omega) | (congr 1 <;> omega)) (ey : y = jI b := by first | rfl | assumption | (simp only [jlit, jneg, jadd, jsub, jmul]; done) | (simp only [jlit, jneg, jadd, jsub, jmul]; congr 1 <;> omega) | (congr 1 <;> omega)) (ec : c = jI cp := by first | rfl | assumption | (simp only [jlit, jneg, jadd, jsub, jmul]; done) | (simp only [jlit, jneg, jadd, jsub, jmul]; congr 1 <;> omega) | (congr 1 <;> omega)) (ez : z = jI t := by first | rfl | assumption | (simp only [jlit, jneg, jadd, jsub, jmul]; done) | (simp only [jlit, jneg, jadd, jsub, jmul]; congr 1 <;> omega) | (congr 1 <;> omega)) (eu : u = jI h := by first | rfl | assumption | (simp only [jlit, jneg, jadd, jsub, jmul]; done) | (simp only [jlit, jneg, jadd, jsub, jmul]; congr 1 <;> omega) | (congr 1 <;> omega)) : MW l G (d + 7) mX12_bestDeed [.ref 98, .ref w, .ref T, .int x, .int y, .int c, .int z, .int u] σ Q := by
  have hr := hP.1
  have hr' := hr
  unfold RB at hr'
  have i0 := zcd_in (dd := 0) hP hL ht hh hc hB hN (Or.inl rfl)
  unfold zbd at hq
  dsimp only at hq
  have e2 : (1 : Int32) + 1 = jI 2 := by decide
  have e3 : (1 : Int32) + 1 + 1 = jI 3 := by decide
  refine vX12_bestDeed [] 120 ?_
  refine c_costBy 0 r b t h cp B N hP hL hT hr2 hb ht hh hc hB hN (Or.inl rfl) ?_ rfl ex ey ec ez eu
  refine brlt 2 1 (fun h1 => by omega) (fun h1 => ?_)
  refine c_may 1 r t hr hP.2.2.1 (by omega) (by omega) (by omega) ?_ rfl ex ez
  by_cases hm : ru 9 ≤ t ∧ (t : Int) + ru 10 < ru 1
  · rw [if_pos hm] at hq
    have i1 := zcd_in (dd := 1) hP hL ht hh hc hB hN (Or.inr ⟨hm.2, Or.inl rfl⟩)
    rw [if_pos (by omega)]
    refine And.intro (fun q => absurd q (by decide)) (fun _ => ?_)
    refine c_costBy 1 r b t h cp B N hP hL hT hr2 hb ht hh hc hB hN (Or.inr ⟨hm.2, Or.inl rfl⟩) ?_ rfl ex ey ec ez eu
    refine bclt (zcd ru am ra cp B N 1 t h) (zcd ru am ra cp B N 0 t h) (fun h2 => ?_) (fun h2 => ?_)
    · rw [if_pos h2] at hq
      refine brlt 2 2 (fun h1 => by omega) (fun h1 => ?_) rfl e2
      refine c_may 2 r t hr hP.2.2.1 (by omega) (by omega) (by omega) ?_ e2 ex ez
      by_cases h0 : 0 < (r : Int)
      · have i2 := zcd_in (dd := 2) hP hL ht hh hc hB hN (Or.inr ⟨hm.2, Or.inr ⟨rfl, by omega⟩⟩)
        rw [if_pos (by omega)]
        refine And.intro (fun q => absurd q (by decide)) (fun _ => ?_)
        refine c_costBy 2 r b t h cp B N hP hL hT hr2 hb ht hh hc hB hN (Or.inr ⟨hm.2, Or.inr ⟨rfl, by omega⟩⟩) ?_ e2 ex ey ec ez eu
        refine bclt (zcd ru am ra cp B N 2 t h) (zcd ru am ra cp B N 1 t h) (fun h4 => ?_) (fun h4 => ?_)
        · rw [if_pos ⟨h0, h4⟩] at hq
          exact brlt 2 3 (fun _ => hq) (fun h5 => by omega) rfl e3
        · rw [if_neg (by omega)] at hq
          exact brlt 2 3 (fun _ => hq) (fun h5 => by omega) rfl e3
      · rw [if_neg (by omega)]
        rw [if_neg (by omega)] at hq
        refine And.intro (fun _ => ?_) (fun q => absurd rfl q)
        exact brlt 2 3 (fun _ => hq) (fun h5 => by omega) rfl e3
    · rw [if_neg (by omega)] at hq
      refine brlt 2 2 (fun h1 => by omega) (fun h1 => ?_) rfl e2
      refine c_may 2 r t hr hP.2.2.1 (by omega) (by omega) (by omega) ?_ e2 ex ez
      by_cases h0 : 0 < (r : Int)
      · have i2 := zcd_in (dd := 2) hP hL ht hh hc hB hN (Or.inr ⟨hm.2, Or.inr ⟨rfl, by omega⟩⟩)
        rw [if_pos (by omega)]
        refine And.intro (fun q => absurd q (by decide)) (fun _ => ?_)
        refine c_costBy 2 r b t h cp B N hP hL hT hr2 hb ht hh hc hB hN (Or.inr ⟨hm.2, Or.inr ⟨rfl, by omega⟩⟩) ?_ e2 ex ey ec ez eu
        refine bclt (zcd ru am ra cp B N 2 t h) (zcd ru am ra cp B N 0 t h) (fun h4 => ?_) (fun h4 => ?_)
        · rw [if_pos ⟨h0, h4⟩] at hq
          exact brlt 2 3 (fun _ => hq) (fun h5 => by omega) rfl e3
        · rw [if_neg (by omega)] at hq
          exact brlt 2 3 (fun _ => hq) (fun h5 => by omega) rfl e3
      · rw [if_neg (by omega)]
        rw [if_neg (by omega)] at hq
        refine And.intro (fun _ => ?_) (fun q => absurd rfl q)
        exact brlt 2 3 (fun _ => hq) (fun h5 => by omega) rfl e3
  · rw [if_neg hm] at hq
    rw [if_neg (by omega)]
    refine And.intro (fun _ => ?_) (fun q => absurd rfl q)
    refine brlt 2 2 (fun h1 => by omega) (fun h1 => ?_) rfl e2
    refine c_may 2 r t hr hP.2.2.1 (by omega) (by omega) (by omega) ?_ e2 ex ez
    rw [if_neg (by omega)]
    refine And.intro (fun _ => ?_) (fun q => absurd rfl q)
    exact brlt 2 3 (fun _ => hq) (fun h5 => by omega) rfl e3
end ML3
