-- what is asked: answers, frames, the reference's simple ones
def qA : List Nat := [98, 100, 102, 103, 104, 109, 112, 113, 114, 118, 119, 120, 121]
def qB : List Nat := [98, 112, 113, 114, 115, 116, 117]
def qK : List Nat := [0, 3, 4, 13, 14, 15, 18, 19, 33, 34, 38, 41, 42, 43]
def Qf (σ τ : Mm) : Prop := (∀ a, a ∉ qA → τ.1 a = σ.1 a) ∧ (∀ a, a ∉ qB → τ.2 a = σ.2 a) ∧ (∀ k, k ∉ qK → τ.1 98 k = σ.1 98 k)
theorem Qf.rf {σ : Mm} : Qf σ σ := ⟨fun _ _ => rfl, fun _ _ => rfl, fun _ _ => rfl⟩
theorem Qf.tr {σ τ ρ : Mm} (h : Qf σ τ) (g : Qf τ ρ) : Qf σ ρ := ⟨fun a q => (g.1 a q).trans (h.1 a q), fun a q => (g.2.1 a q).trans (h.2.1 a q), fun a q => (g.2.2 a q).trans (h.2.2 a q)⟩
theorem Qf.u8 {σ τ : Mm} (h : Qf σ τ) {k : Nat} {v : Int32} (hk : k ∈ qK) : Qf σ (uI τ 98 k v) := ⟨fun a q => by rw [uI_n (fun z => q (by rw [z]; decide))]; exact h.1 a q, h.2.1, fun j q => by rw [uI_ne (Or.inr (fun z => q (by rw [z]; exact hk)))]; exact h.2.2 j q⟩
theorem Qf.uA {σ τ : Mm} (h : Qf σ τ) {a k : Nat} {v : Int32} (ha : a ∈ qA) (h8 : a ≠ 98) : Qf σ (uI τ a k v) := ⟨fun b q => by rw [uI_n (fun z => q (by rw [z]; exact ha))]; exact h.1 b q, h.2.1, fun j q => by rw [uI_n (Ne.symm h8)]; exact h.2.2 j q⟩
theorem Qf.ly {σ τ ρ : Mm} (h : Qf σ τ) (f : Fr [112, 113, 114] τ ρ) : Qf σ ρ := h.tr ⟨fun a q => f.1 a (fun z => q (by
  simp only [qA, List.mem_cons, List.not_mem_nil, or_false] at z ⊢
  omega)), fun a q => f.2 a (fun z => q (by
  simp only [qB, List.mem_cons, List.not_mem_nil, or_false] at z ⊢
  omega)), fun k _ => by rw [f.1 98 (by decide)]⟩
theorem Qf.la {σ τ ρ : Mm} (h : Qf σ τ) (T : Nat) (hT : T = 115 ∨ T = 116 ∨ T = 117) (f1 : ∀ a, a ∉ [112, 113, 114] → ρ.1 a = τ.1 a) (f2 : ∀ a, a ∉ [112, 113, 114] → a ≠ T → ρ.2 a = τ.2 a) : Qf σ ρ := h.tr ⟨fun a q => f1 a (fun z => q (by
  simp only [qA, List.mem_cons, List.not_mem_nil, or_false] at z ⊢
  omega)), fun a q => by
  simp only [qB, List.mem_cons, List.not_mem_nil, or_false, not_or] at q
  exact f2 a (by simp only [List.mem_cons, List.not_mem_nil, or_false, not_or]; omega) (by omega), fun k _ => by rw [f1 98 (by decide)]⟩
/-- the reference holds a loan -/
def RM (σ : Mm) (ru : Nat → Int) (W : Wk) : Prop := σ.1 98 17 = 1 ∧ ME σ ru ∧ Mr σ ru 108 W ∧ σ.1 98 27 = 0 ∧ WB ru W
theorem RM.fr {σ τ : Mm} {ru : Nat → Int} {W : Wk} (h : RM σ ru W) (f : Qf σ τ) : RM τ ru W := by
  obtain ⟨h1, h2, h3, h4, h5⟩ := h
  exact ⟨by rw [f.2.2 17 (by decide)]; exact h1, h2.fr (f.1 101 (by decide)), h3.fr (fun k _ => by rw [f.1 108 (by decide)]) h2.1, by rw [f.2.2 27 (by decide)]; exact h4, h5⟩
def aRule (ru : Nat → Int) (W : Wk) (i : Int) : Int := if 0 ≤ i ∧ i ≤ 13 then (if i = 2 then W.f 2 else if i = 11 then W.f 3 else ru i.toNat) else -1
abbrev isN (ru : Nat → Int) (a b : Int) : Prop := 0 ≤ a ∧ a < ru 1 ∧ 0 ≤ b ∧ b ≤ a
def aRate (ru : Nat → Int) (W : Wk) (a b : Int) : Int := if isN ru a b then W.ra a.toNat b.toNat else 0
def aYear (ru : Nat → Int) (W : Wk) (y w : Int) : Int := if (0 ≤ w ∧ w ≤ 4) ∧ (if w < 3 then 1 else 0) ≤ y ∧ y ≤ ru 1 then (if w = 0 then zp ru W.am y.toNat else if w = 1 then zi ru W.am (W.f 2) y.toNat else if w = 2 then zd ru W.am (W.f 2) y.toNat else if w = 3 then zl ru W.am y.toNat else zpr ru W.am y.toNat) else -1
def aDeed (ru : Nat → Int) (W : Wk) (a b : Int) : Int := if isN ru a b then W.de a.toNat b.toNat else -1
def aBest (ru : Nat → Int) (W : Wk) (a b : Int) : Int := if isN ru a b then wBest ru W a.toNat b.toNat else -1
/-- what a deed costs at a node -/
def wCo (ru : Nat → Int) (W : Wk) (dd : Int) (t h : Nat) : Int := zcd ru W.am W.ra (W.f 2) (zco ru W.am W.ra none W.r (W.f 2)) (zN ru W.am W.ra none W.r) dd t h
def wZ (ru : Nat → Int) (W : Wk) (t h : Nat) : Int := zco ru W.am W.ra none W.r (W.f 2) t h
abbrev myD (ru : Nat → Int) (dd r t : Int) : Prop := dd = 0 ∨ ((ru 9 ≤ t ∧ t + ru 10 < ru 1) ∧ (dd = 1 ∨ 0 < r))
def aCosts (ru : Nat → Int) (W : Wk) (a b w : Int) : Int := if ¬ (0 ≤ w ∧ w ≤ 3) then -1000000 else if ¬ isN ru a b ∨ (1 < w ∧ ¬ myD ru (w - 1) (W.f 3) a) then -1 else if w = 0 then wZ ru W a.toNat b.toNat else wCo ru W (w - 1) a.toNat b.toNat
/-- a sum over years from .. -/
def sumY (g : Nat → Int) (t0 : Nat) : Nat → Int
  | 0 => 0
  | n + 1 => sumY g t0 n + g (t0 + n)
section MQ1
variable {l : Launch} {G : GT} {d : Nat} {σ : Mm} {Q : Po} {ru : Nat → Int} {W : Wk}
theorem c_rule {x : Int32} (i : Int) (hM : RM σ ru W) (ri : R31 i) (hq : ∀ τ, Qf σ τ → Q (some (.int (jI (aRule ru W i)))) τ) (ex : x = jI i := by first | rfl | assumption | (simp only [jlit, jneg, jadd, jsub, jmul]; done) | (simp only [jlit, jneg, jadd, jsub, jmul]; congr 1 <;> omega) | (congr 1 <;> omega)) : MW l G (d + 1) mX12_rule [.ref 98, .int x] σ Q := by
  have f0 : Qf σ (uI σ 98 0 0) := Qf.rf.u8 (by decide)
  have M0 := hM.fr f0
  have hq := hq _ f0
  unfold aRule at hq
  refine vX12_rule [] 60 ?_
  refine And.intro (fun q => absurd (M0.1.symm.trans q) (by decide)) (fun _ => ?_)
  refine c_isIn i 0 13 ?_ (by rw [ex, jI_L ri])
  refine brz _ (fun q => ?_) (fun q => ?_)
  · rw [if_neg q] at hq
    exact hq
  · rw [if_pos q] at hq
    refine breq i 2 (fun q2 => ?_) (fun q2 => ?_)
    · rw [if_pos q2] at hq
      exact ldI 494 2 (M0.2.2.1.1 2 (by omega)) hq
    · rw [if_neg q2] at hq
      refine breq i 11 (fun q3 => ?_) (fun q3 => ?_)
      · rw [if_pos q3] at hq
        exact ldI 494 3 (M0.2.2.1.1 3 (by omega)) hq
      · rw [if_neg q3] at hq
        exact ldI 14 i.toNat (M0.2.1.2 i.toNat (by omega)) hq (hi := by rw [ex]; congr 1; omega)
theorem c_rate {x y : Int32} (a b : Int) (hM : RM σ ru W) (ra : R31 a) (rb : R31 b) (hq : ∀ τ, Qf σ τ → τ.1 98 0 = (if isN ru a b then 0 else 1) → Q (some (.int (jI (aRate ru W a b)))) τ) (ex : x = jI a := by first | rfl | assumption | (simp only [jlit, jneg, jadd, jsub, jmul]; done) | (simp only [jlit, jneg, jadd, jsub, jmul]; congr 1 <;> omega) | (congr 1 <;> omega)) (ey : y = jI b := by first | rfl | assumption | (simp only [jlit, jneg, jadd, jsub, jmul]; done) | (simp only [jlit, jneg, jadd, jsub, jmul]; congr 1 <;> omega) | (congr 1 <;> omega)) : MW l G (d + 2) mX12_rate [.ref 98, .int x, .int y] σ Q := by
  obtain ⟨h1, h2, h3, h4, h5⟩ := hM
  have e7 : uI σ 98 27 0 = σ := uI_id h4
  unfold aRate at hq
  refine vX12_rate [] 60 ?_
  refine c_isNode a b (by rw [e7]; exact h1) (by rw [e7]; exact h2) ra rb ?_
  rw [e7]
  refine brz _ (fun q => ?_) (fun q => ?_)
  · refine brle (1 : Int) 0 (fun z => by omega) (fun _ => ?_) (hx := by rw [uI_at]; rfl)
    have hq := hq (uI σ 98 0 1) (Qf.rf.u8 (by decide)) (by rw [uI_at, if_neg q])
    rw [if_neg q] at hq
    exact hq
  · refine brle (0 : Int) 0 (fun _ => ?_) (fun z => by omega) (hx := by rw [uI_at]; rfl)
    have f0 : Qf σ (uI σ 98 0 0) := Qf.rf.u8 (by decide)
    have M0 : RM (uI σ 98 0 0) ru W := RM.fr ⟨h1, h2, h3, h4, h5⟩ f0
    have hq := hq _ f0 (by rw [uI_at, if_pos q])
    rw [if_pos q] at hq
    exact c_rateOf a.toNat b.toNat (M0.2.2.1.PM M0.2.1 (Or.inl rfl) M0.2.2.2.1) (by omega) (by omega) hq (by rw [ex]; congr 1; omega) (by rw [ey]; congr 1; omega)
theorem c_deed {x y : Int32} (a b : Int) (hM : RM σ ru W) (ra : R31 a) (rb : R31 b) (hq : ∀ τ, Qf σ τ → Q (some (.int (jI (aDeed ru W a b)))) τ) (ex : x = jI a := by first | rfl | assumption | (simp only [jlit, jneg, jadd, jsub, jmul]; done) | (simp only [jlit, jneg, jadd, jsub, jmul]; congr 1 <;> omega) | (congr 1 <;> omega)) (ey : y = jI b := by first | rfl | assumption | (simp only [jlit, jneg, jadd, jsub, jmul]; done) | (simp only [jlit, jneg, jadd, jsub, jmul]; congr 1 <;> omega) | (congr 1 <;> omega)) : MW l G (d + 2) mX12_deed [.ref 98, .int x, .int y] σ Q := by
  have f0 : Qf σ (uI σ 98 0 0) := Qf.rf.u8 (by decide)
  have M0 := hM.fr f0
  have hr' := hM.2.1.1
  unfold RB at hr'
  have hq := hq _ f0
  unfold aDeed at hq
  refine vX12_deed [] 60 ?_
  refine c_isNode a b M0.1 M0.2.1 ra rb ?_
  refine brz _ (fun q => ?_) (fun q => ?_)
  · rw [if_neg q] at hq
    exact hq
  · rw [if_pos q] at hq
    refine c_node a b ?_
    refine ldI 494 (169 + (12 * a.toNat + b.toNat)) (M0.2.2.1.2.2.2 a.toNat b.toNat (by omega) (by omega)) hq (hi := by simp only [jlit, jadd]; congr 1; omega)
theorem c_laysNow (hM : RM σ ru W) (hq : ∀ τ, Qf σ τ → LY τ ru W.am → (∀ r, r ≤ W.r → TB τ 115 ru r 0 0 (zco ru W.am W.ra none r (W.f 2))) → (∀ r, r ≤ W.r → TN τ 115 ru r (zN ru W.am W.ra none r)) → Q none τ) : MW l G (d + 10) mX12_laysNow [.ref 98] σ Q := by
  obtain ⟨h1, h2, h3, h4, h5⟩ := hM
  have e7 : uI σ 98 27 0 = σ := uI_id h4
  refine vX12_laysNow [] 60 ?_
  refine ldI 494 2 (show _ = jI (W.f 2) by rw [e7]; exact h3.1 2 (by omega)) ?_
  rw [e7]
  refine ldI 494 3 (h3.1 3 (by omega)) ?_
  exact c_laysW (T := 115) none (Or.inl rfl) (Or.inl rfl) h2 h3 h4 h5 (by decide) rfl (fun τ g1 g2 g3 g4 g5 => hq τ (Qf.rf.la 115 (Or.inl rfl) g1 g2) g3 g4 g5)
theorem c_best {x y : Int32} (a b : Int) (hM : RM σ ru W) (ra : R31 a) (rb : R31 b) (hq : ∀ τ, Qf σ τ → Q (some (.int (jI (aBest ru W a b)))) τ) (ex : x = jI a := by first | rfl | assumption | (simp only [jlit, jneg, jadd, jsub, jmul]; done) | (simp only [jlit, jneg, jadd, jsub, jmul]; congr 1 <;> omega) | (congr 1 <;> omega)) (ey : y = jI b := by first | rfl | assumption | (simp only [jlit, jneg, jadd, jsub, jmul]; done) | (simp only [jlit, jneg, jadd, jsub, jmul]; congr 1 <;> omega) | (congr 1 <;> omega)) : MW l G (d + 11) mX12_best [.ref 98, .int x, .int y] σ Q := by
  have f0 : Qf σ (uI σ 98 0 0) := Qf.rf.u8 (by decide)
  have M0 := hM.fr f0
  have hW := hM.2.2.2.2
  unfold WB at hW
  have hr3 : ((W.r : Nat) : Int) = W.f 3 := Int.toNat_of_nonneg hW.2.2.1.1
  unfold aBest at hq
  refine vX12_best [] 60 ?_
  refine c_isNode a b M0.1 M0.2.1 ra rb ?_
  refine brz _ (fun q => ?_) (fun q => ?_)
  · rw [if_neg q] at hq
    exact hq _ f0
  · rw [if_pos q] at hq
    refine c_laysNow M0 (fun τ g1 g2 g3 g4 => ?_)
    have M1 := M0.fr g1
    refine ldI 494 3 (show _ = jI (W.r : Int) by rw [hr3]; exact M1.2.2.1.1 3 (by omega)) ?_
    refine ldI 494 2 (M1.2.2.1.1 2 (by omega)) ?_
    exact c_bestDeed W.r 0 a.toNat b.toNat (W.f 2) _ _ (M1.2.2.1.PM M1.2.1 (Or.inl rfl) M1.2.2.2.1) g2 (by decide) (by omega) (by omega) (by omega) (by omega) hW.2.1 ((g3 W.r (Nat.le_refl _)).up (by omega)) (g4 W.r (Nat.le_refl _)) (hq τ (f0.tr g1)) (ez := by rw [ex]; congr 1; omega) (eu := by rw [ey]; congr 1; omega)
end MQ1
