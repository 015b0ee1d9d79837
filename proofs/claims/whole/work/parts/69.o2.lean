-- settleNotice, giveNotice of the class
section KP
variable {l : Launch} {G : GT} {d : Nat} {σ : Mm} {Q : Po} {ru : Nat → Int} {W : Wk}
theorem Kr.rate {a : Nat} (h : Kr σ a W) {t k : Nat} (ht : t < 12) (hk : k ≤ t) : σ.1 a (25 + nd t k) = jI (W.ra t k) := by
  obtain ⟨h1, h2, h3, h4, h5⟩ := h
  have hn := nd_lt2 ht hk
  have hb := h5.2.1 (25 + nd t k) (by omega) (by omega)
  rw [← h3]
  unfold raS
  rw [if_pos ⟨hk, ht⟩, Int.add_zero, bnd_id hb.1 hb.2]
  exact (jI_of _).symm
theorem k_settleNotice {x : Int32} (t h : Nat) (ki : Int) (hK : Kr σ 2 W) (hR : RC σ ru) (hL : LC σ ru W.am) (h0 : W.f 0 = t) (h1 : W.f 1 = h) (ht : (t : Int) < ru 1) (hh : h ≤ t) (hki : ki = 1 ∨ ki = 2) (hra : 0 ≤ W.ra t h ∧ W.ra t h ≤ 999)
    (hq : ∀ τ : Mm, (∀ c, c ≠ 2 → τ.1 c = σ.1 c) → τ.2 = σ.2 → Kr τ 2 (wRun ru (W.put 4 ki)) → Q (some (.int (jI (wRunC ru (W.put 4 ki))))) τ) (ex : x = jI ki := by first | rfl | assumption | (simp only [jlit, jneg, jadd, jsub, jmul]; done) | (simp only [jlit, jneg, jadd, jsub, jmul]; congr 1 <;> omega) | (congr 1 <;> omega)) : MW l G (d + 2) mX3_settleNotice [.ref 63, .int x] σ Q := by
  have hr := hR.1
  have hr' := hr
  unfold RB at hr'
  have et : (W.put 4 ki).t = t := by unfold Wk.t; show (W.f 0).toNat = t; rw [h0]; rfl
  have eh : (W.put 4 ki).h = h := by unfold Wk.h; show (W.f 1).toNat = h; rw [h1]; rfl
  unfold wRun wRunC at hq
  rw [et, eh] at hq
  have hp := (hL.2 t (by omega)).2.2
  have hl := (hL.2 t (by omega)).1
  obtain ⟨σ1, e1⟩ : ∃ σ1, σ1 = uI (uI σ 2 4 0) 2 5 0 := ⟨_, rfl⟩
  have m1 : Kr σ1 2 ((W.put 4 0).put 5 0) := by rw [e1]; exact (hK.put 4 0).put 5 0
  have f1 : ∀ c, c ≠ 2 → σ1.1 c = σ.1 c := fun c hc => by rw [e1, uI_n hc, uI_n hc]
  have g8 : σ1.1 2 8 = jI (W.f 9) := m1.1 8 (by omega)
  have p1 : σ1.1 18 t = jI (zpr ru W.am t) := by rw [f1 18 (by decide)]; exact hp
  have l1 : σ1.1 16 t = jI (zl ru W.am t) := by rw [f1 16 (by decide)]; exact hl
  obtain ⟨σ2, e2⟩ : ∃ σ2, σ2 = uI σ1 2 8 (jI (W.f 9) + (jI (zpr ru W.am t) - jI (zl ru W.am t))) := ⟨_, rfl⟩
  have m2 : Kr σ2 2 (((W.put 4 0).put 5 0).put 9 (W.f 9 + (zpr ru W.am t - zl ru W.am t))) := by rw [e2]; exact m1.put 8 (W.f 9 + (zpr ru W.am t - zl ru W.am t))
  have f2 : ∀ c, c ≠ 2 → σ2.1 c = σ.1 c := fun c hc => by rw [e2, uI_n hc]; exact f1 c hc
  have q2 : σ2.2 = σ.2 := by rw [e2, e1]; rfl
  have hR2 : RC σ2 ru := hR.fr (f2 1 (by decide))
  have hL2 : LC σ2 ru W.am := hL.fr (f2 16 (by decide)) (f2 17 (by decide)) (f2 18 (by decide))
  have g0 : σ.1 2 0 = jI t := by rw [hK.1 0 (by omega), ← h0]; rfl
  by_cases hc : ki = 1
  · have hc' : (W.put 4 ki).f 4 = 1 := hc
    rw [if_pos hc', if_pos hc'] at hq
    have m3 := m2.put 11 1 (v := 1)
    have g6 : (uI σ2 2 11 1).1 2 6 = jI (W.f 7) := m3.1 6 (by omega)
    have m4 := m3.put 6 (W.f 7 + zpr ru W.am t) (v := jI (W.f 7) + jI (zpr ru W.am t))
    refine vX3_settleNotice [] 120 ?_
    refine ldI 115 0 g0 ?_
    refine ldI 13 t hp ?_
    refine stI 115 4 ?_
    refine stI 115 5 ?_
    subst e1
    refine ldI 115 8 g8 ?_
    refine ldI 13 t p1 ?_
    refine ldI 13 t l1 ?_
    refine stI 115 8 ?_
    subst e2
    refine breq ki 1 (fun _ => ?_) (fun z => absurd hc z) ex
    refine stI 115 11 ?_
    refine ldI 115 6 g6 ?_
    refine stI 115 6 ?_
    exact hq _ (fun c hc => by rw [uI_n hc, uI_n hc]; exact f2 c hc) q2 (m4.ex (fun k hk => by rcases c12 hk with rfl | rfl | rfl | rfl | rfl | rfl | rfl | rfl | rfl | rfl | rfl | rfl <;> rfl) rfl)
  · have hc' : ¬ (W.put 4 ki).f 4 = 1 := hc
    rw [if_neg hc', if_neg hc'] at hq
    have g9 : σ2.1 2 9 = jI (W.f 10) := m2.1 9 (by omega)
    obtain ⟨σ3, e3⟩ : ∃ σ3, σ3 = uI σ2 2 9 (jI (W.f 10) + jI (ru 13)) := ⟨_, rfl⟩
    have m3 := m2.put 9 (W.f 10 + ru 13) (v := jI (W.f 10) + jI (ru 13))
    rw [← e3] at m3
    have hR3 : RC σ3 ru := hR.fr (by rw [e3, uI_n (by decide)]; exact f2 1 (by decide))
    have gr : σ3.1 2 (25 + nd t h) = jI (W.ra t h) := m3.rate (by omega) hh
    have hn := nd_lt2 (t := t) (h := h) (by omega) hh
    obtain ⟨σ4, e4⟩ : ∃ σ4, σ4 = uI σ3 2 2 (jI (min 999 (W.ra t h + ru 12))) := ⟨_, rfl⟩
    have m4 := m3.put 2 (zcp ru W.ra t h) (v := jI (min 999 (W.ra t h + ru 12))) (hv := rfl)
    rw [← e4] at m4
    have g3 : σ4.1 2 3 = jI (W.f 3) := m4.1 3 (by omega)
    have m5 := m4.put 3 (W.f 3 - 1) (v := jI (W.f 3) - 1)
    have g10 : (uI σ4 2 3 (jI (W.f 3) - 1)).1 2 10 = jI (W.f 11) := m5.1 10 (by omega)
    have m6 := m5.put 10 (W.f 11 + 1) (v := jI (W.f 11) + 1)
    have g6 : (uI (uI σ4 2 3 (jI (W.f 3) - 1)) 2 10 (jI (W.f 11) + 1)).1 2 6 = jI (W.f 7) := m6.1 6 (by omega)
    have m7 := m6.put 6 (W.f 7 + (zpr ru W.am t - zl ru W.am t + ru 13)) (v := jI (W.f 7) + jI (zpr ru W.am t - zl ru W.am t + ru 13))
    refine vX3_settleNotice [] 120 ?_
    refine ldI 115 0 g0 ?_
    refine ldI 13 t hp ?_
    refine stI 115 4 ?_
    refine stI 115 5 ?_
    subst e1
    refine ldI 115 8 g8 ?_
    refine ldI 13 t p1 ?_
    refine ldI 13 t l1 ?_
    refine stI 115 8 ?_
    subst e2
    refine breq ki 1 (fun z => absurd z hc) (fun _ => ?_) ex
    refine k_renewalAt t hR2 hL2 (by omega) ?_
    refine ldI 115 9 g9 ?_
    refine ldI 14 13 (hR2.2 13 (by omega)) ?_
    refine stI 115 9 ?_
    subst e3
    refine k_here t h m3 h0 h1 (by omega) ?_
    refine ldI 115 (25 + nd t h) gr ?_
    refine k_couponAt (W.ra t h) hR3 (by omega) ?_
    refine stI 115 2 ?_
    subst e4
    refine ldI 115 3 g3 ?_
    refine stI 115 3 ?_
    refine ldI 115 10 g10 ?_
    refine stI 115 10 ?_
    refine ldI 115 6 g6 ?_
    refine stI 115 6 ?_
    exact hq _ (fun c hc => by rw [uI_n hc, uI_n hc, uI_n hc, uI_n hc, uI_n hc]; exact f2 c hc) q2 (m7.ex (fun k hk => by rcases c12 hk with rfl | rfl | rfl | rfl | rfl | rfl | rfl | rfl | rfl | rfl | rfl | rfl <;> rfl) rfl)
end KP
