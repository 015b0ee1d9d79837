-- mass, masses, ending of the class
section KFm
variable {l : Launch} {G : GT} {d : Nat} {σ : Mm} {Q : Po} {ru : Nat → Int} {W : Wk}
theorem QK.b97 {τ ρ : Mm} (f : ∀ c, c ≠ 97 → ρ.1 c = τ.1 c) (g : ρ.2 = τ.2) : QK τ ρ := ⟨fun c q => f c (fun z => q (by rw [z]; decide)), fun c _ => by rw [g]⟩
theorem CI.b97 {τ ρ : Mm} (h : CI τ ru) (f : ∀ c, c ≠ 97 → ρ.1 c = τ.1 c) : CI ρ ru := h.frS (f 1 (by decide)) (fun c hc => f c (by rintro rfl; exact absurd hc (by decide)))
theorem NtA.b97 {τ ρ : Mm} (hr : RB ru) (h : NtA τ 31 ru W W.ra none) (f : ∀ c, c ≠ 97 → ρ.1 c = τ.1 c) : NtA ρ 31 ru W W.ra none := fun t k q1 q2 => (h t k q1 q2).fr2 hr (fun a ha => f a (by rintro rfl; exact absurd ha (by decide)))
/-- reckoned and poured -/
theorem k_poured (hK : KQ σ ru W) (h6 : W.f 6 = 0) : ∀ τ : Mm, QK σ τ → CI τ ru → NtA τ 31 ru W W.ra none → ∀ Q' : Po, (∀ ρ : Mm, QK σ ρ → CI ρ ru → NtA ρ 31 ru W W.ra none → PF ρ ru W → Q' none ρ) → MW l G (d + 1) mX1_pour [.ref 96, .ref 2, .ref 31] τ Q' := by
  intro τ f c n Q' hq
  exact k_pour (hK.fr f c) h6 n (fun ρ e1 e2 p => hq ρ (f.tr (QK.b97 e1 e2)) (c.b97 e1) (NtA.b97 hK.2.1.1.1 n e1) p)
theorem k_mass {x y : Int32} (a b : Int) (hK : KQ σ ru W) (ra : R31 a) (rb : R31 b) (hq : ∀ τ, QK σ τ → CI τ ru → Q (some (.int (aMass ru W a b))) τ) (ex : x = jI a := by first | rfl | assumption | (simp only [jlit, jneg, jadd, jsub, jmul]; done) | (simp only [jlit, jneg, jadd, jsub, jmul]; congr 1 <;> omega) | (congr 1 <;> omega)) (ey : y = jI b := by first | rfl | assumption | (simp only [jlit, jneg, jadd, jsub, jmul]; done) | (simp only [jlit, jneg, jadd, jsub, jmul]; congr 1 <;> omega) | (congr 1 <;> omega)) : MW l G (d + 6) mX11_mass [.ref 0, .int x, .int y] σ Q := by
  have h12 := hK.ru
  obtain ⟨hr3, r2, ht, hh, hht, _, h6t, bc⟩ := hK.r
  unfold aMass at hq
  have no : W.f 6 = 1 ∨ ¬ isN ru a b ∨ a < W.f 0 → Q (some (.int (-1))) σ := fun z => by
    rw [if_pos z] at hq
    exact hq σ QK.rf hK.2.1
  refine vX11_mass [] 90 ?_
  refine k_over hK ?_
  refine brz _ (fun q => ?_) (fun q => no (Or.inl q))
  refine k_isN a b hK ra rb ?_
  refine brz _ (fun q1 => no (Or.inr (Or.inl q1))) (fun q1 => ?_)
  refine ldI 115 0 (hK.1.1 0 (by omega)) ?_
  refine brle (W.f 0) a (fun q2 => ?_) (fun q2 => no (Or.inr (Or.inr q2)))
  rw [if_neg (fun z => z.elim q (fun v => v.elim (fun w => w q1) (fun w => by omega)))] at hq
  refine k_least0 hK (fun τ g1 g2 g3 g4 g5 g6 g7 g8 g9 => ?_)
  refine k_poured hK (by omega) τ g1 g2 g6 _ (fun ρ p1 p2 p3 p4 => ?_)
  refine k_nodeOf a.toNat b.toNat ?_ (by rw [ex]; congr 1; omega) (by rw [ey]; congr 1; omega)
  have hn := nd_lt2 (t := a.toNat) (h := b.toNat) (by omega) (by omega)
  have em := p4 (a.toNat - W.t) b.toNat (by omega) (by omega)
  rw [show W.t + (a.toNat - W.t) = a.toNat by omega] at em
  exact ldI 91 (nd a.toNat b.toNat) em (hq ρ p1 p2)
theorem k_ending {x y : Int32} (t w : Int) (hK : KQ σ ru W) (rt : R31 t) (rw' : R31 w) (hq : ∀ τ, QK σ τ → CI τ ru → Q (some (.int (aEnding ru W t w))) τ) (ex : x = jI t := by first | rfl | assumption | (simp only [jlit, jneg, jadd, jsub, jmul]; done) | (simp only [jlit, jneg, jadd, jsub, jmul]; congr 1 <;> omega) | (congr 1 <;> omega)) (ey : y = jI w := by first | rfl | assumption | (simp only [jlit, jneg, jadd, jsub, jmul]; done) | (simp only [jlit, jneg, jadd, jsub, jmul]; congr 1 <;> omega) | (congr 1 <;> omega)) : MW l G (d + 6) mX11_ending [.ref 0, .int x, .int y] σ Q := by
  have h12 := hK.ru
  obtain ⟨hr3, r2, ht, hh, hht, _, h6t, bc⟩ := hK.r
  unfold aEnding at hq
  have no : W.f 6 = 1 ∨ ¬ (W.f 0 ≤ t ∧ t ≤ ru 1 - 1) ∨ ¬ (0 ≤ w ∧ w ≤ 1) → Q (some (.int (-1))) σ := fun z => by
    rw [if_pos z] at hq
    exact hq σ QK.rf hK.2.1
  refine vX11_ending [] 90 ?_
  refine k_over hK ?_
  refine brz _ (fun q => ?_) (fun q => no (Or.inl q))
  refine k_isN t 0 hK rt (by omega) ?_
  refine brz _ (fun q1 => no (Or.inr (Or.inl (by unfold isN at q1; omega)))) (fun q1 => ?_)
  unfold isN at q1
  refine ldI 115 0 (hK.1.1 0 (by omega)) ?_
  refine brlt t (W.f 0) (fun q2 => no (Or.inr (Or.inl (by omega)))) (fun q2 => ?_)
  refine brlt w 0 (fun q3 => no (Or.inr (Or.inr (by omega)))) (fun q3 => ?_)
  refine brle w 1 (fun q4 => ?_) (fun q4 => no (Or.inr (Or.inr (by omega))))
  rw [if_neg (by omega)] at hq
  refine k_least0 hK (fun τ g1 g2 g3 g4 g5 g6 g7 g8 g9 => ?_)
  refine k_poured hK (by omega) τ g1 g2 g6 _ (fun ρ p1 p2 p3 p4 => ?_)
  exact k_stopped (W := W) t.toNat (w + 1) p4 p3 (by omega) (by omega) (by omega) (by omega) (hq ρ p1 p2) (by rw [ex]; congr 1; omega) (by rw [ey]; first | rfl | assumption | (simp only [jlit, jneg, jadd, jsub, jmul]; done) | (simp only [jlit, jneg, jadd, jsub, jmul]; congr 1 <;> omega) | (congr 1 <;> omega))
theorem k_masses {x : Int32} (w : Int) (hK : KQ σ ru W) (rw' : R31 w) (hq : ∀ τ, QK σ τ → CI τ ru → Q (some (.int (aMasses ru W w))) τ) (ex : x = jI w := by first | rfl | assumption | (simp only [jlit, jneg, jadd, jsub, jmul]; done) | (simp only [jlit, jneg, jadd, jsub, jmul]; congr 1 <;> omega) | (congr 1 <;> omega)) : MW l G (d + 6) mX11_masses [.ref 0, .int x] σ Q := by
  have h12 := hK.ru
  obtain ⟨hr3, r2, ht, hh, hht, _, h6t, bc⟩ := hK.r
  unfold aMasses at hq
  have no : W.f 6 = 1 ∨ ¬ (0 ≤ w ∧ w ≤ 2) → Q (some (.int (-1))) σ := fun z => by
    rw [if_pos z] at hq
    exact hq σ QK.rf hK.2.1
  refine vX11_masses [(67, [0, 1, 2, 3, 4])] 90 ?_
  refine k_over hK ?_
  refine brz _ (fun q => ?_) (fun q => no (Or.inl q))
  refine brlt w 0 (fun q3 => no (Or.inr (by omega))) (fun q3 => ?_)
  refine brle w 2 (fun q4 => ?_) (fun q4 => no (Or.inr (by omega)))
  rw [if_neg (by omega)] at hq
  have hT := h6t (by omega)
  refine k_least0 hK (fun τ g1 g2 g3 g4 g5 g6 g7 g8 g9 => ?_)
  refine k_poured hK (by omega) τ g1 g2 g6 _ (fun ρ p1 p2 p3 p4 => ?_)
  have K2 := hK.fr p1 p2
  have hq := hq ρ p1 p2
  refine breq w 2 (fun z => ?_) (fun z => ?_) (hx := ex) (hy := rfl)
  · rw [if_neg (by omega), if_neg (by omega)] at hq
    exact k_atTheEnd p4 K2.ru.1 (by omega) hT hht hq
  · have hq : Q (some (.int (allS W.t (gD ru W (w + 1)) (nY ru W)))) ρ := by
      by_cases w0 : w = 0
      · rw [if_pos w0] at hq
        rw [w0]
        exact hq
      · rw [if_neg w0, if_pos (by omega)] at hq
        rw [show w = 1 by omega]
        exact hq
    have key : ∀ (m k : Nat) (u v : Int32), k + m = nY ru W → u = allS W.t (gD ru W (w + 1)) k → v = jI ((W.t + k : Nat) : Int) → Wp l G (d + 6) mX11_masses 67 [(0, .ref 0), (1, .int x), (2, .ref 31), (3, .int u), (4, .int v)] [] ρ Q := by
      intro m
      unfold nY at *
      induction m with
      | zero =>
        intro k u v hn hu hv
        refine wX11_masses [] 60 ?_
        refine ldI 14 1 K2.ru.1 ?_
        refine brle (ru 1) ((W.t + k : Nat) : Int) (fun _ => ?_) (fun z => by omega) (hx := rfl) (hy := hv)
        rw [show (ru 1).toNat - W.t = k by omega, ← hu] at hq
        exact hq
      | succ m ih =>
        intro k u v hn hu hv
        refine wX11_masses [(67, [0, 1, 2, 3, 4])] 60 ?_
        refine ldI 14 1 K2.ru.1 ?_
        refine brle (ru 1) ((W.t + k : Nat) : Int) (fun z => by omega) (fun _ => ?_) (hx := rfl) (hy := hv)
        refine k_stopped (W := W) (W.t + k) (w + 1) p4 p3 (by omega) (by omega) (by omega) (by omega) ?_ (by rw [hv]) (by rw [ex]; first | rfl | assumption | (simp only [jlit, jneg, jadd, jsub, jmul]; done) | (simp only [jlit, jneg, jadd, jsub, jmul]; congr 1 <;> omega) | (congr 1 <;> omega))
        refine ih (k + 1) _ _ (by omega) ?_ (by rw [hv]; first | rfl | assumption | (simp only [jlit, jneg, jadd, jsub, jmul]; done) | (simp only [jlit, jneg, jadd, jsub, jmul]; congr 1 <;> omega) | (congr 1 <;> omega))
        rw [hu, show W.t + k - W.t = k by omega]
        rfl
    refine ldI 115 0 (show _ = jI (W.t : Int) by rw [ht]; exact K2.1.1 0 (by omega)) ?_
    exact key (nY ru W) 0 _ _ (by omega) rfl rfl
end KFm
