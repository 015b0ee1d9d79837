-- undo, log, image, back, status, acts: the reference
def hUndo (H : Hs) : Hs := (H.V 0, H.E - 1, H.L, H.A - 1, fun j => H.V (j + 1))
def hLog (H : Hs) (i w : Int) : Int32 := if 0 ≤ i ∧ i < ((min 60 H.E : Nat) : Int) ∧ 0 ≤ w ∧ w ≤ 2 then H.L (H.E - 1 - i.toNat) w.toNat else jI (-1000000)
def Im : Type := Wk × Nat × (Nat → Nat → Int32)
def hBack (H : Hs) (m : Im) : Hs := (m.1, m.2.1, m.2.2, 0, H.V)
def IM (σ : Mm) (ru : Nat → Int) (im : Option Im) : Prop := match im with
  | none => σ.1 98 26 = 0
  | some m => σ.1 98 26 = 1 ∧ Rw (σ.1 110) ru m.1 m.2.1 m.2.2
section MU
variable {l : Launch} {G : GT} {d : Nat} {σ : Mm} {Q : Po} {ru : Nat → Int} {H : Hs}
theorem c_undo (hr : RB ru) (hH : HM σ ru H) (hq0 : H.A = 0 → Q (some (.int (-1))) (uI σ 98 0 0))
    (hq : H.A ≠ 0 → ∀ τ : Mm, (∀ c, c ≠ 98 → c ≠ 108 → τ.1 c = σ.1 c) → τ.2 = σ.2 → (∀ k, k ≠ 0 → k ≠ 25 → τ.1 98 k = σ.1 98 k) → HM τ ru (hUndo H) → Q (some (.int (jI ((H.A - 1 : Nat) : Int)))) τ) : MW l G (d + 1) mX12_undo [.ref 98] σ Q := by
  obtain ⟨h1, F, h2⟩ := hH
  obtain ⟨a1, a2, f1, f2, a3, hk⟩ := h2
  have e25 : (uI σ 98 0 0).1 98 25 = jI (H.A : Int) := by rw [uI_ne (Or.inr (by decide))]; exact a3
  refine vX12_undo [] 60 ?_
  refine breq (H.A : Int) 0 (fun q => hq0 (by omega)) (fun q => ?_)
  have hq := hq (by omega)
  obtain ⟨σ1, s1⟩ : ∃ σ1, σ1 = uI (uI σ 98 0 0) 98 25 ((uI σ 98 0 0).1 98 25 - 1) := ⟨_, rfl⟩
  have g25 : σ1.1 98 25 = jI ((H.A - 1 : Nat) : Int) := by rw [s1, uI_at, e25]; first | rfl | assumption | (simp only [jlit, jneg, jadd, jsub, jmul]; done) | (simp only [jlit, jneg, jadd, jsub, jmul]; congr 1 <;> omega) | (congr 1 <;> omega)
  have g24 : σ1.1 98 24 = jI (F : Int) := by rw [s1, uI_ne (Or.inr (by decide)), uI_ne (Or.inr (by decide))]; exact f2
  have gk : ∀ k, k ≠ 0 → k ≠ 25 → σ1.1 98 k = σ.1 98 k := fun k q1 q2 => by rw [s1, uI_ne (Or.inr q2), uI_ne (Or.inr q1)]
  have gc : ∀ c, c ≠ 98 → σ1.1 c = σ.1 c := fun c hc => by rw [s1, uI_n hc, uI_n hc]
  have g2 : σ1.2 = σ.2 := by rw [s1]; rfl
  have er : (σ1.1 98 24 + σ1.1 98 25) - (σ1.1 98 24 + σ1.1 98 25) / 40 * 40 = jI (((F + (H.A - 1)) % 40 : Nat) : Int) := by
    rw [g24, g25, show jI (F : Int) + jI ((H.A - 1 : Nat) : Int) = jI ((F + (H.A - 1) : Nat) : Int) by rw [jadd]; congr 1]
    exact jremN _ 40 (by omega) (by omega) (by omega)
  rw [s1] at er
  have hm := Nat.mod_lt (F + (H.A - 1)) (show 0 < 40 by omega)
  refine And.intro (by decide) ?_
  refine c_copyRow (494 * ((F + (H.A - 1)) % 40)) 0 (by decide) (by show _ ≤ 19760; omega) (by decide) (by decide) (by decide) (fun τ p1 p2 p3 => ?_) (by rw [er, show (494 : Int32) = jI 494 from rfl, jmul]; congr 1)
  rw [← s1] at p1 p2 p3
  have t25 : τ.1 98 25 = jI ((H.A - 1 : Nat) : Int) := by rw [p2 98 (by decide)]; exact g25
  show Q (some (.int (τ.1 98 25))) τ
  rw [t25]
  refine hq τ (fun c q1 q2 => (p2 c q2).trans (gc c q1)) (p1.trans g2) (fun k q1 q2 => by rw [p2 98 (by decide)]; exact gk k q1 q2) ⟨?_, F, ?_⟩
  · show Rw (τ.1 108) ru (H.V 0) (H.E - 1) H.L
    refine (hk 0 (by omega)).fr (fun k hk => ?_) hr
    rw [p3, if_pos (by omega), gc 111 (by decide), show F + H.A - 1 - 0 = F + (H.A - 1) by omega, show k - 0 = k by omega]
  · refine ⟨by show H.A - 1 ≤ 40; omega, by show H.A - 1 ≤ H.E - 1; omega, f1, by rw [p2 98 (by decide)]; exact g24, t25, fun j hj => ?_⟩
    have hj : j < H.A - 1 := hj
    show Rw (fun k => τ.1 111 (494 * ((F + (H.A - 1) - 1 - j) % 40) + k)) ru (H.V (j + 1)) (H.E - 1 - 1 - j) H.L
    rw [p2 111 (by decide), gc 111 (by decide), show F + (H.A - 1) - 1 - j = F + H.A - 1 - (j + 1) by omega, show H.E - 1 - 1 - j = H.E - 1 - (j + 1) by omega]
    exact hk (j + 1) (by omega)
theorem c_log {x y : Int32} (i w : Int) (hT : σ.1 108 313 = jI ((min 60 H.E : Nat) : Int) ∧ ∀ i q, i < min 60 H.E → q < 3 → σ.1 108 (314 + (3 * i + q)) = H.L (H.E - min 60 H.E + i) q) (ri : R31 i) (rw' : R31 w) (hq : Q (some (.int (hLog H i w))) (uI σ 98 0 0)) (ex : x = jI i := by first | rfl | assumption | (simp only [jlit, jneg, jadd, jsub, jmul]; done) | (simp only [jlit, jneg, jadd, jsub, jmul]; congr 1 <;> omega) | (congr 1 <;> omega)) (ey : y = jI w := by first | rfl | assumption | (simp only [jlit, jneg, jadd, jsub, jmul]; done) | (simp only [jlit, jneg, jadd, jsub, jmul]; congr 1 <;> omega) | (congr 1 <;> omega)) : MW l G (d + 1) mX12_log [.ref 98, .int x, .int y] σ Q := by
  have no : ¬ (0 ≤ i ∧ i < ((min 60 H.E : Nat) : Int) ∧ 0 ≤ w ∧ w ≤ 2) → Q (some (.int (-1000000))) (uI σ 98 0 0) := fun q => by
    unfold hLog at hq
    rw [if_neg q] at hq
    exact hq
  have e8 : (uI σ 98 0 0).1 108 = σ.1 108 := uI_n (by decide)
  refine vX12_log [] 60 ?_
  refine brlt i 0 (fun q => no (by omega)) (fun q1 => ?_)
  refine ldI 494 313 (show _ = jI ((min 60 H.E : Nat) : Int) by rw [e8]; exact hT.1) ?_
  refine brle ((min 60 H.E : Nat) : Int) i (fun q => no (by omega)) (fun q2 => ?_)
  refine c_isIn w 0 2 ?_ (by rw [ey, jI_L rw'])
  refine brz _ (fun q => no (by omega)) (fun q3 => ?_)
  refine ldI 494 313 (show _ = jI ((min 60 H.E : Nat) : Int) by rw [e8]; exact hT.1) ?_
  have e := hT.2 (min 60 H.E - 1 - i.toNat) w.toNat (by omega) (by omega)
  refine ldI 494 (314 + (3 * (min 60 H.E - 1 - i.toNat) + w.toNat)) (show _ = H.L (H.E - 1 - i.toNat) w.toNat by rw [e8, e, show H.E - min 60 H.E + (min 60 H.E - 1 - i.toNat) = H.E - 1 - i.toNat by omega]) ?_ (hi := by rw [ex, ey]; simp only [jlit, jadd, jsub, jmul]; congr 1; omega)
  unfold hLog at hq
  rw [if_pos (by omega)] at hq
  exact hq
theorem c_status {x : Int32} (i : Int) (ri : R31 i) (hq : Q (some (.int (if 0 ≤ i ∧ i ≤ 3 then σ.1 105 i.toNat else -1))) (uI σ 98 0 0)) (ex : x = jI i := by first | rfl | assumption | (simp only [jlit, jneg, jadd, jsub, jmul]; done) | (simp only [jlit, jneg, jadd, jsub, jmul]; congr 1 <;> omega) | (congr 1 <;> omega)) : MW l G (d + 1) mX12_status [.ref 98, .int x] σ Q := by
  refine vX12_status [] 60 ?_
  refine c_isIn i 0 3 ?_ (by rw [ex, jI_L ri])
  refine brz _ (fun q => ?_) (fun q => ?_)
  · rw [if_neg q] at hq
    exact hq
  · rw [if_pos q] at hq
    refine ldI 4 i.toNat (show _ = σ.1 105 i.toNat by rw [uI_n (by decide)]) ?_ (hi := by rw [ex]; congr 1; omega)
    exact hq
theorem c_image0 (hI : σ.1 98 17 = 0) (hq : Q (some (.int (-1))) (uI σ 98 0 0)) : MW l G (d + 1) mX12_image [.ref 98] σ Q := by
  refine vX12_image [] 60 ?_
  refine And.intro (fun _ => hq) (fun q => absurd ((uI_ne (Or.inr (by decide))).trans hI) q)
theorem c_image (hr : RB ru) (hI : σ.1 98 17 = 1) (hH : HM σ ru H) (hq : ∀ τ : Mm, (∀ c, c ≠ 98 → c ≠ 110 → τ.1 c = σ.1 c) → τ.2 = σ.2 → (∀ k, k ≠ 0 → k ≠ 26 → τ.1 98 k = σ.1 98 k) → IM τ ru (some (H.W, H.E, H.L)) → Q (some (.int (jI (H.W.f 7)))) τ) : MW l G (d + 1) mX12_image [.ref 98] σ Q := by
  obtain ⟨h1, F, h2⟩ := hH
  refine vX12_image [] 60 ?_
  refine And.intro (fun q => absurd (((uI_ne (Or.inr (by decide))).trans hI).symm.trans q) (by decide)) (fun _ => ?_)
  refine c_copyRow 0 0 (by decide) (by decide) (by decide) (by decide) (by decide) (fun τ p1 p2 p3 => ?_)
  have e8 : τ.1 108 = σ.1 108 := by rw [p2 108 (by decide), uI_n (by decide)]
  refine And.intro (Or.inr rfl) ?_
  refine ldI 494 7 (show _ = jI (H.W.f 7) by rw [uI_n (by decide), e8]; exact h1.1.1 7 (by omega)) ?_
  refine hq _ (fun c q1 q2 => by rw [uI_n q1, p2 c q2, uI_n q1]) p1 (fun k q1 q2 => by rw [uI_ne (Or.inr q2), p2 98 (by decide), uI_ne (Or.inr q1)]) ⟨uI_at _ _ _ _, ?_⟩
  refine h1.fr (fun k hk => ?_) hr
  rw [uI_n (by decide), p3, if_pos (by omega), uI_n (by decide), show 0 + (k - 0) = k by omega]
theorem c_back0 (hI : σ.1 98 26 = 0) (hq : Q (some (.int (-1))) (uI σ 98 0 0)) : MW l G (d + 1) mX12_back [.ref 98] σ Q := by
  refine vX12_back [] 60 ?_
  refine And.intro (fun _ => hq) (fun q => absurd ((uI_ne (Or.inr (by decide))).trans hI) q)
theorem c_back (m : Im) (hr : RB ru) (hM : IM σ ru (some m)) (hH : HM σ ru H) (hq : ∀ τ : Mm, (∀ c, c ≠ 98 → c ≠ 108 → τ.1 c = σ.1 c) → τ.2 = σ.2 → (∀ k, k ≠ 0 → k ≠ 25 → τ.1 98 k = σ.1 98 k) → HM τ ru (hBack H m) → Q (some (.int (jI (m.1.f 7)))) τ) : MW l G (d + 1) mX12_back [.ref 98] σ Q := by
  obtain ⟨h1, F, h2⟩ := hH
  obtain ⟨a1, a2, f1, f2, a3, hk⟩ := h2
  obtain ⟨hI, hR⟩ := hM
  refine vX12_back [] 60 ?_
  refine And.intro (fun q => absurd (((uI_ne (Or.inr (by decide))).trans hI).symm.trans q) (by decide)) (fun _ => ?_)
  refine c_copyRow 0 0 (by decide) (by decide) (by decide) (by decide) (by decide) (fun τ p1 p2 p3 => ?_)
  have r8 : Rw (τ.1 108) ru m.1 m.2.1 m.2.2 := by
    refine hR.fr (fun k hk => ?_) hr
    rw [p3, if_pos (by omega), uI_n (by decide), show 0 + (k - 0) = k by omega]
  refine ldI 494 7 (show _ = jI (m.1.f 7) by rw [uI_n (by decide)]; exact r8.1.1 7 (by omega)) ?_
  refine hq _ (fun c q1 q2 => by rw [uI_n q1, p2 c q2, uI_n q1]) p1 (fun k q1 q2 => by rw [uI_ne (Or.inr q2), p2 98 (by decide), uI_ne (Or.inr q1)]) ⟨?_, F, ?_⟩
  · rw [uI_n (by decide)]
    exact r8
  · refine ⟨by show 0 ≤ 40; omega, by show 0 ≤ m.2.1; omega, f1, ?_, uI_at _ _ _ _, fun j hj => absurd (show j < 0 from hj) (by omega)⟩
    rw [uI_ne (Or.inr (by decide)), p2 98 (by decide), uI_ne (Or.inr (by decide))]
    exact f2
end MU
