-- what is kept, the log: the reference
theorem jrem {a b : Int} (ha : 0 ≤ a) (ha2 : a < 2147483648) (hb : 0 < b) (hb2 : b < 2147483648) : jI a - jI a / jI b * jI b = jI (a % b) := by
  rw [jdiv ha ha2 hb hb2, jmul, jsub]
  congr 1
  have := Int.emod_add_mul_ediv a b
  rw [Int.mul_comm] at this
  omega
theorem jremN (a b : Nat) (ha2 : a < 2147483648) (hb : 0 < b) (hb2 : b < 2147483648) : jI (a : Int) - jI (a : Int) / jI (b : Int) * jI (b : Int) = jI ((a % b : Nat) : Int) := by
  rw [jrem (by omega) (by omega) (by omega) (by omega), Int.natCast_emod]
/-- a row of 494 numbers holds W and the log's last 60 -/
def Rw (g : Nat → Int32) (ru : Nat → Int) (W : Wk) (E : Nat) (L : Nat → Nat → Int32) : Prop := Mr ((fun _ => g), (fun _ _ => 0)) ru 0 W ∧ g 313 = jI ((min 60 E : Nat) : Int) ∧ ∀ i q, i < min 60 E → q < 3 → g (314 + (3 * i + q)) = L (E - min 60 E + i) q
theorem Rw.fr {g g' : Nat → Int32} {ru : Nat → Int} {W : Wk} {E : Nat} {L : Nat → Nat → Int32} (h : Rw g ru W E L) (e : ∀ k, k < 494 → g' k = g k) (hr : RB ru) : Rw g' ru W E L := by
  refine ⟨h.1.fr (fun k hk => e k (by omega)) hr, by rw [e 313 (by omega)]; exact h.2.1, fun i q hi hq => ?_⟩
  rw [e _ (by omega)]
  exact h.2.2 i q hi hq
theorem Rw.ex {g : Nat → Int32} {ru : Nat → Int} {W : Wk} {E : Nat} {L L' : Nat → Nat → Int32} (h : Rw g ru W E L) (e : ∀ p q, p < E → q < 3 → L' p q = L p q) : Rw g ru W E L' := by
  refine ⟨h.1, h.2.1, fun i q hi hq => ?_⟩
  rw [e _ _ (by omega) hq]
  exact h.2.2 i q hi hq
theorem Rw.mr {σ : Mm} {w : Nat} {ru : Nat → Int} {W : Wk} {E : Nat} {L : Nat → Nat → Int32} (h : Rw (σ.1 w) ru W E L) : Mr σ ru w W := h.1
/-- the rows that can be taken back: V 0 the last one -/
def Kp (σ : Mm) (ru : Nat → Int) (A F : Nat) (V : Nat → Wk) (E : Nat) (L : Nat → Nat → Int32) : Prop := A ≤ 40 ∧ A ≤ E ∧ F < 40 ∧ σ.1 98 24 = jI (F : Int) ∧ σ.1 98 25 = jI (A : Int) ∧ ∀ j, j < A → Rw (fun k => σ.1 111 (494 * ((F + A - 1 - j) % 40) + k)) ru (V j) (E - 1 - j) L
def Vp (W : Wk) (V : Nat → Wk) : Nat → Wk := fun j => if j = 0 then W else V (j - 1)
section MHi
variable {l : Launch} {G : GT} {d : Nat} {σ : Mm} {Q : Po} {ru : Nat → Int} {W : Wk} {A F E : Nat} {V : Nat → Wk} {L : Nat → Nat → Int32}
theorem c_remember (hr : RB ru) (hT : Rw (σ.1 109) ru W E L) (hK : Kp σ ru A F V E L)
    (hq : ∀ (τ : Mm) (F' : Nat), (∀ c, c ≠ 98 → c ≠ 111 → τ.1 c = σ.1 c) → τ.2 = σ.2 → (∀ k, k ≠ 24 → k ≠ 25 → τ.1 98 k = σ.1 98 k) → Kp τ ru (min 40 (A + 1)) F' (Vp W V) (E + 1) L → Q none τ) : MW l G (d + 1) mX12_remember [.ref 98] σ Q := by
  obtain ⟨a1, a2, f1, f2, a3, hk⟩ := hK
  have go : ∀ (ρ : Mm) (A' F' : Nat), A' = min 40 (A + 1) → F' < 40 → (∀ j, j < A' - 1 → (F' + A' - 1 - (j + 1)) % 40 = (F + A - 1 - j) % 40) → (∀ c, c ≠ 98 → ρ.1 c = σ.1 c) → ρ.2 = σ.2 → (∀ k, k ≠ 24 → k ≠ 25 → ρ.1 98 k = σ.1 98 k) → ρ.1 98 24 = jI (F' : Int) → ρ.1 98 25 = jI (A' : Int) → Wp l G (d + 1) mX12_remember 35 [(0, .ref 98)] [] ρ Q := by
    intro ρ A' F' hA hF hj e1 e2 e3 e4 e5
    refine wX12_remember [] 40 ?_
    have ei : jI (F' : Int) + jI (A' : Int) - 1 = jI ((F' + A' - 1 : Nat) : Int) := by
      rw [show (1 : Int32) = jI 1 from rfl, jadd, jsub]
      congr 1
      omega
    refine And.intro (by decide) ?_
    have er : jI ((F' + A' - 1 : Nat) : Int) - jI ((F' + A' - 1 : Nat) : Int) / 40 * 40 = jI (((F' + A' - 1) % 40 : Nat) : Int) := jremN _ 40 (by omega) (by omega) (by omega)
    have hm := Nat.mod_lt (F' + A' - 1) (show 0 < 40 by omega)
    refine c_copyRow 0 (494 * ((F' + A' - 1) % 40)) (by decide) (by decide) (by show _ ≤ 19760; omega) (by decide) (by decide) (fun τ g1 g2 g3 => ?_) (by first | rfl | assumption | (simp only [jlit, jneg, jadd, jsub, jmul]; done) | (simp only [jlit, jneg, jadd, jsub, jmul]; congr 1 <;> omega) | (congr 1 <;> omega)) (by rw [e4, e5, ei, er, show (494 : Int32) = jI 494 from rfl, jmul]; congr 1)
    refine hq τ F' (fun c q1 q2 => (g2 c q2).trans (e1 c q1)) (g1.trans e2) (fun k q1 q2 => by rw [g2 98 (by decide)]; exact e3 k q1 q2) ?_
    rw [← hA]
    refine ⟨by omega, by omega, hF, by rw [g2 98 (by decide)]; exact e4, by rw [g2 98 (by decide)]; exact e5, fun j hjA => ?_⟩
    cases j with
    | zero =>
      show Rw _ ru W (E + 1 - 1 - 0) L
      rw [show E + 1 - 1 - 0 = E by omega]
      refine hT.fr (fun k hk => ?_) hr
      show τ.1 111 _ = _
      rw [g3, if_pos (by omega), show 0 + (494 * ((F' + A' - 1 - 0) % 40) + k - 494 * ((F' + A' - 1) % 40)) = k by omega, e1 109 (by decide)]
    | succ j =>
      show Rw _ ru (V (j + 1 - 1)) (E + 1 - 1 - (j + 1)) L
      rw [show j + 1 - 1 = j by omega, show E + 1 - 1 - (j + 1) = E - 1 - j by omega]
      refine (hk j (by omega)).fr (fun k hk => ?_) hr
      have h1 := hj j (by omega)
      show τ.1 111 _ = _
      rw [g3, h1, if_neg (by omega), e1 111 (by decide)]
  refine vX12_remember [(35, [0])] 40 ?_
  refine breq (A : Int) 40 (fun q => ?_) (fun q => ?_)
  · refine And.intro (by decide) ?_
    have er : σ.1 98 24 + 1 - (σ.1 98 24 + 1) / 40 * 40 = jI (((F + 1) % 40 : Nat) : Int) := by
      rw [f2, show jI (F : Int) + 1 = jI ((F + 1 : Nat) : Int) by first | rfl | assumption | (simp only [jlit, jneg, jadd, jsub, jmul]; done) | (simp only [jlit, jneg, jadd, jsub, jmul]; congr 1 <;> omega) | (congr 1 <;> omega)]
      exact jremN _ 40 (by omega) (by omega) (by omega)
    refine go _ 40 ((F + 1) % 40) (by omega) (by omega) (fun j hj => by omega) (fun c hc => by rw [uI_n hc]) rfl (fun k q1 q2 => by rw [uI_ne (Or.inr q1)]) ((uI_at _ _ _ _).trans er) (by rw [uI_ne (Or.inr (by decide)), a3]; congr 1)
  · refine go _ (A + 1) F (by omega) (by omega) (fun j hj => by omega) (fun c hc => by rw [uI_n hc]) rfl (fun k q1 q2 => by rw [uI_ne (Or.inr q2)]) (by rw [uI_ne (Or.inr (by decide))]; exact f2) (by rw [uI_at, a3]; first | rfl | assumption | (simp only [jlit, jneg, jadd, jsub, jmul]; done) | (simp only [jlit, jneg, jadd, jsub, jmul]; congr 1 <;> omega) | (congr 1 <;> omega))
end MHi
