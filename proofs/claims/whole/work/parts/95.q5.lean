-- the reference: margin, worth, shifted, strays
def aMargin (ru : Nat → Int) (W : Wk) : Int := if W.f 6 = 1 ∨ ¬ (ru 9 ≤ W.f 0 ∧ W.f 0 + ru 10 < ru 1) then -1000000 else wCo ru W 0 W.t W.h - (if 0 < W.f 3 then min (wCo ru W 1 W.t W.h) (wCo ru W 2 W.t W.h) else wCo ru W 1 W.t W.h)
def aWorth (ru : Nat → Int) (W : Wk) : Int := if W.f 6 = 1 then -1 else zco ru W.am W.ra (some (fun _ _ => 0)) W.r (W.f 2) W.t W.h - wZ ru W W.t W.h
def wRS (W : Wk) (s : Int) : Nat → Nat → Int := fun t h => if h ≤ t ∧ t < 12 then bnd (W.ra t h + s) else 0
def aShifted (ru : Nat → Int) (W : Wk) (s : Int) : Int := if W.f 6 = 1 ∨ ¬ (-99 ≤ s ∧ s ≤ 99) then -1 else zco ru W.am (wRS W s) none W.r (W.f 2) W.t W.h
theorem zcd_in2 {ru am : Nat → Int} {ra : Nat → Nat → Int} {pol : Option (Nat → Nat → Int)} (hr : RB ru) (ha : ∀ j, 0 ≤ am j) (hra : ∀ t h : Nat, (t : Int) < ru 1 → h ≤ t → 0 ≤ ra t h) (hp : ∀ de, pol = some de → ∀ t h : Nat, (t : Int) < ru 1 → h ≤ t → 0 ≤ de t h ∧ de t h ≤ 2) {cp : Int} (hc : 0 ≤ cp ∧ cp ≤ 999) {r t h : Nat} {dd : Int} (r2 : r ≤ 2) (ht : (t : Int) < ru 1) (hh : h ≤ t) (hm : dd = 0 ∨ (ru 9 ≤ t ∧ (t : Int) + ru 10 < ru 1) ∧ (dd = 1 ∨ dd = 2 ∧ 0 < r)) : 0 ≤ zcd ru am ra cp (zco ru am ra pol r cp) (zN ru am ra pol r) dd t h ∧ zcd ru am ra cp (zco ru am ra pol r cp) (zN ru am ra pol r) dd t h ≤ 1000000 := by
  have h1 := zco_in (pol := pol) hr ha hra hp hc r (t + 1) (h + 1) (by omega) (by omega)
  have h2 := zco_in (pol := pol) hr ha hra hp hc r (t + 1) h (by omega) (by omega)
  have := zcd_lt (r := r) (b := 930000) (n := 620000) hr ha hra hc ht hh (B := zco ru am ra pol r cp) (N := zN ru am ra pol r) (dd := dd) (by omega) (by omega) (fun _ t h q1 q2 => by have := zN_in (pol := pol) hr ha hra hp r t h q1 q2; omega) (by omega) (by omega) (by omega)
  omega
/-- the first place with a number -/
def fs (p : Nat → Nat) : Nat → Int
  | 0 => -1
  | n + 1 => if fs p n ≠ -1 then fs p n else if p n ≠ 0 then (n : Int) else -1
theorem fs_ext (p : Nat → Nat) (a : Nat) : ∀ n, (∀ i, a ≤ i → i < a + n → p i = 0) → fs p (a + n) = fs p a
  | 0, _ => rfl
  | n + 1, h => by
    show (if fs p (a + n) ≠ -1 then fs p (a + n) else if p (a + n) ≠ 0 then ((a + n : Nat) : Int) else -1) = fs p a
    rw [fs_ext p a n (fun i h1 h2 => h i h1 (by omega)), h (a + n) (by omega) (by omega)]
    by_cases q : fs p a ≠ -1
    · rw [if_pos q]
    · rw [if_neg q, if_neg (by simp)]
      exact (Decidable.not_not.mp q).symm
theorem fs_keep (p : Nat → Nat) (a : Nat) (h : fs p a ≠ -1) : ∀ n, fs p (a + n) = fs p a
  | 0 => rfl
  | n + 1 => by
    show (if fs p (a + n) ≠ -1 then fs p (a + n) else if p (a + n) ≠ 0 then ((a + n : Nat) : Int) else -1) = fs p a
    rw [fs_keep p a h n, if_pos h]
theorem fs_in (p : Nat → Nat) : ∀ n, -1 ≤ fs p n ∧ fs p n < n
  | 0 => ⟨Int.le_refl _, by show (-1 : Int) < 0; omega⟩
  | n + 1 => by
    have := fs_in p n
    show -1 ≤ (if fs p n ≠ -1 then fs p n else if p n ≠ 0 then (n : Int) else -1) ∧ (if fs p n ≠ -1 then fs p n else if p n ≠ 0 then (n : Int) else -1) < ((n + 1 : Nat) : Int)
    split
    · omega
    · split <;> omega
def wDs (ru : Nat → Int) (W : Wk) (t h : Nat) : Nat := if wC ru W t h ∧ wPol ru W t h ≠ wBest ru W t h then 1 else 0
def wDl (ru : Nat → Int) (W : Wk) (i : Nat) : Nat := wDs ru W (i / 12) (i % 12)
def aStrays (ru : Nat → Int) (W : Wk) (w : Int) : Int := if W.f 6 = 1 ∨ ¬ (0 ≤ w ∧ w ≤ 2) then -1 else if w = 0 then (allN (wDs ru W) (ru 1).toNat : Nat) else if fs (wDl ru W) 144 = -1 then -1 else if w = 1 then fs (wDl ru W) 144 / 12 else fs (wDl ru W) 144 % 12
section MQ5
variable {l : Launch} {G : GT} {d : Nat} {σ : Mm} {Q : Po} {ru : Nat → Int} {W : Wk}
theorem RM.N (hM : RM σ ru W) : 0 < W.r → ∀ t h : Nat, (t : Int) < ru 1 → h ≤ t → True := fun _ _ _ _ _ => trivial
theorem c_margin (hM : RM σ ru W) (hq : ∀ τ, Qf σ τ → Q (some (.long (jL (aMargin ru W)))) τ) : MW l G (d + 11) mX12_margin [.ref 98] σ Q := by
  have f0 : Qf σ (uI σ 98 0 0) := Qf.rf.u8 (by decide)
  have M0 := hM.fr f0
  have hr := hM.2.1.1
  have hr' := hr
  unfold RB at hr'
  have hW := hM.2.2.2.2
  unfold WB at hW
  obtain ⟨hr3, r2, ht, hh, hht⟩ := hM.r
  unfold aMargin at hq
  refine vX12_margin [(132, [0, 1])] 90 ?_
  refine c_over M0 ?_
  refine brz _ (fun q => ?_) (fun q => ?_)
  · refine ldI 494 0 (M0.2.2.1.1 0 (by omega)) ?_
    refine c_mayEnd (W.f 0) hr M0.2.1.2 (by omega) ?_
    refine brz _ (fun q2 => ?_) (fun q2 => ?_)
    · rw [if_pos (Or.inr q2)] at hq
      exact hq _ f0
    · rw [if_neg (fun z => z.elim q (fun v => v q2))] at hq
      refine c_laysNow M0 (fun τ F g2 g3 g4 => ?_)
      have M1 := M0.fr F
      have hq := hq τ (f0.tr F)
      have R := M1.2.2.1.1
      have e0 : τ.1 108 0 = jI (W.t : Int) := by rw [ht]; exact R 0 (by omega)
      have e1 : τ.1 108 1 = jI (W.h : Int) := by rw [hh]; exact R 1 (by omega)
      have e3 : τ.1 108 3 = jI (W.r : Int) := by rw [hr3]; exact R 3 (by omega)
      have fin : ∀ v : Int64, v = jL (if 0 < W.f 3 then min (wCo ru W 1 W.t W.h) (wCo ru W 2 W.t W.h) else wCo ru W 1 W.t W.h) → Wp l G (d + 11) mX12_margin 132 [(0, .ref 98), (1, .long v)] [] τ Q := by
        intro v hv
        refine wX12_margin [] 60 ?_
        refine ldI 494 3 e3 ?_
        refine ldI 494 2 (R 2 (by omega)) ?_
        refine ldI 494 0 e0 ?_
        refine ldI 494 1 e1 ?_
        refine c_costBy 0 W.r 0 W.t W.h (W.f 2) _ _ M1.pm g2 (by decide) r2 (by omega) (by omega) hht hW.2.1 ((g3 W.r (Nat.le_refl _)).up (by omega)) (g4 W.r (Nat.le_refl _)) (Or.inl rfl) ?_
        rw [← jLsub, ← hv] at hq
        exact hq
      have bC : ∀ dd : Nat, (dd = 1 ∨ dd = 2 ∧ 0 < W.r) → R63 (wCo ru W dd W.t W.h) := by
        intro dd hdd
        have := zcd_in2 (pol := none) (cp := W.f 2) (r := W.r) (dd := (dd : Int)) hr (fun j => (hW.2.2.2.2.2.2.2.1 j).1) (fun t h _ _ => (hW.2.2.2.2.2.2.2.2.1 t h).1) (fun de q => by simp at q) hW.2.1 r2 (show (W.t : Int) < ru 1 by omega) hht (by omega)
        unfold wCo
        omega
      refine ldI 494 3 e3 ?_
      refine ldI 494 2 (R 2 (by omega)) ?_
      refine ldI 494 0 e0 ?_
      refine ldI 494 1 e1 ?_
      refine c_costBy 1 W.r 0 W.t W.h (W.f 2) _ _ M1.pm g2 (by decide) r2 (by omega) (by omega) hht hW.2.1 ((g3 W.r (Nat.le_refl _)).up (by omega)) (g4 W.r (Nat.le_refl _)) (Or.inr ⟨by omega, Or.inl rfl⟩) ?_
      refine ldI 494 3 (R 3 (by omega)) ?_
      refine brle (W.f 3) 0 (fun q3 => ?_) (fun q3 => ?_)
      · exact fin _ (by rw [if_neg (by omega)]; rfl)
      · refine ldI 494 3 e3 ?_
        refine ldI 494 2 (R 2 (by omega)) ?_
        refine ldI 494 0 e0 ?_
        refine ldI 494 1 e1 ?_
        refine c_costBy 2 W.r 0 W.t W.h (W.f 2) _ _ M1.pm g2 (by decide) r2 (by omega) (by omega) hht hW.2.1 ((g3 W.r (Nat.le_refl _)).up (by omega)) (g4 W.r (Nat.le_refl _)) (Or.inr ⟨by omega, Or.inr ⟨rfl, by omega⟩⟩) ?_
        refine bcge (wCo ru W 2 W.t W.h) (wCo ru W 1 W.t W.h) (fun z => ?_) (fun z => ?_) rfl rfl (bC 2 (Or.inr ⟨rfl, by omega⟩)) (bC 1 (Or.inl rfl))
        · exact fin _ (by rw [if_pos (by omega), show min (wCo ru W 1 W.t W.h) (wCo ru W 2 W.t W.h) = wCo ru W 1 W.t W.h by omega]; rfl)
        · exact fin _ (by rw [if_pos (by omega), show min (wCo ru W 1 W.t W.h) (wCo ru W 2 W.t W.h) = wCo ru W 2 W.t W.h by omega]; rfl)
  · rw [if_pos (Or.inl q)] at hq
    exact hq _ f0
theorem c_shifted {x : Int32} (s : Int) (hM : RM σ ru W) (rs : R31 s) (hq : ∀ τ, Qf σ τ → Q (some (.long (jL (aShifted ru W s)))) τ) (ex : x = jI s := by first | rfl | assumption | (simp only [jlit, jneg, jadd, jsub, jmul]; done) | (simp only [jlit, jneg, jadd, jsub, jmul]; congr 1 <;> omega) | (congr 1 <;> omega)) : MW l G (d + 11) mX12_shifted [.ref 98, .int x] σ Q := by
  have f0 : Qf σ (uI σ 98 0 0) := Qf.rf.u8 (by decide)
  have M0 := hM.fr f0
  have hr := hM.2.1.1
  have hr' := hr
  unfold RB at hr'
  have hW := hM.2.2.2.2
  unfold WB at hW
  obtain ⟨hr3, r2, ht, hh, hht⟩ := hM.r
  unfold aShifted at hq
  refine vX12_shifted [] 90 ?_
  refine c_over M0 ?_
  refine brz _ (fun q => ?_) (fun q => ?_)
  · refine c_isIn s (-99) 99 ?_ (by rw [ex, jI_L rs])
    refine brz _ (fun q2 => ?_) (fun q2 => ?_)
    · rw [if_pos (Or.inr q2)] at hq
      exact hq _ f0
    · rw [if_neg (fun z => z.elim q (fun v => v q2))] at hq
      have h6 : W.f 6 = 0 := by omega
      obtain ⟨σ1, s1⟩ : ∃ σ1, σ1 = uI (uI σ 98 0 0) 98 27 x := ⟨_, rfl⟩
      have c1 : ∀ c, c ≠ 98 → σ1.1 c = σ.1 c := fun c hc => by rw [s1, uI_n hc, uI_n hc]
      have P : PM σ1 108 ru (wRS W s) := by
        refine ⟨hr, by decide, fun k hk => by rw [c1 101 (by decide)]; exact hM.2.1.2 k hk, s, by rw [s1, uI_at]; exact ex, q2.1, q2.2, fun t h p1 p2 => ?_⟩
        obtain ⟨tr, w1, w2, w3⟩ := hM.2.2.1.2.2.1 t h p1 p2
        refine ⟨tr, by rw [c1 108 (by decide)]; exact w1, w2, ?_⟩
        unfold wRS
        rw [if_pos ⟨p2, by omega⟩, w3]
        unfold zra
        congr 1
        have := bnd_in (ru 3 + h * ru 4 - ((t : Int) - h) * ru 5)
        have e : bnd ((if tr = -1 then bnd (ru 3 + h * ru 4 - ((t : Int) - h) * ru 5) else tr) + 0) = (if tr = -1 then bnd (ru 3 + h * ru 4 - ((t : Int) - h) * ru 5) else tr) := by
          rw [Int.add_zero]
          split
          · exact bnd_id this.1 this.2
          · exact bnd_id (by omega) (by omega)
        rw [e]
      refine ldI 494 2 (show _ = jI (W.f 2) by rw [← s1, c1 108 (by decide)]; exact hM.2.2.1.1 2 (by omega)) ?_
      refine ldI 494 3 (show _ = jI (W.r : Int) by rw [← s1, c1 108 (by decide), hr3]; exact hM.2.2.1.1 3 (by omega)) ?_
      rw [← s1]
      refine c_lays (w := 108) (T := 115) (am := W.am) none (W.f 2) W.r P (by decide) (fun j => (hW.2.2.2.2.2.2.2.1 j).1) (fun j hj => ⟨by rw [c1 108 (by decide)]; exact hM.2.2.1.2.1 j hj, (hW.2.2.2.2.2.2.2.1 j).2⟩) (by decide) r2 hW.2.1 (fun de q => by simp at q) rfl (fun τ g1 g2 g3 g4 g5 => ?_)
      have F : Qf σ (uI τ 98 27 0) := by
        refine ⟨fun a qa => ?_, fun a qb => ?_, fun k qk => ?_⟩
        · simp only [qA, List.mem_cons, List.not_mem_nil, or_false, not_or] at qa
          rw [uI_n (by omega), g1 a (by simp only [List.mem_cons, List.not_mem_nil, or_false, not_or]; omega), c1 a (by omega)]
        · simp only [qB, List.mem_cons, List.not_mem_nil, or_false, not_or] at qb
          show τ.2 a = _
          rw [g2 a (by simp only [List.mem_cons, List.not_mem_nil, or_false, not_or]; omega) (by omega), s1]
          rfl
        · by_cases k7 : k = 27
          · subst k7
            rw [uI_at, hM.2.2.2.1]
          · rw [uI_ne (Or.inr k7), g1 98 (by decide), s1, uI_ne (Or.inr k7)]
            exact f0.2.2 k qk
      have t2 := (g4 W.r (Nat.le_refl _) W.t W.h (by omega) (by omega) hht).1 (by omega)
      exact c_hereJ (T := 115) (by decide) (hM.fr F) h6 t2 (hq _ F)
  · rw [if_pos (Or.inl q)] at hq
    exact hq _ f0
end MQ5
