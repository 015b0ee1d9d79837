section ML4
variable {l : Launch} {G : GT} {d : Nat} {σ : Mm} {Q : Po} {ru am : Nat → Int} {ra : Nat → Nat → Int} {w T : Nat}
theorem c_laysYears (hr : RB ru) (hru : ∀ k, k < 14 → σ.1 101 k = jI (ru k)) (hw : lenI w = 494) (hw2 : w ∉ [112, 113, 114]) (ham0 : ∀ j, 0 ≤ am j) (ham : ∀ j, j < 13 → σ.1 w (12 + j) = jI (am j) ∧ am j ≤ 9999) (hq : ∀ τ, Fr [112, 113, 114] σ τ → LY τ ru am → Q none τ) : MW l G d mX12_laysYears [.ref 98, .ref w] σ Q := by
  have hr' := hr
  unfold RB at hr'
  have key : ∀ (n t : Nat) (τ : Mm), (t : Int) + n = ru 1 + 1 → Fr [112, 113, 114] σ τ → τ.1 112 0 = jI (ru 0) → τ.1 113 0 = jI 0 → (∀ j : Nat, j < t → τ.1 112 j = jI (zl ru am j) ∧ τ.1 113 j = jI (zp ru am j) ∧ τ.1 114 j = jI (zpr ru am j)) → Wp l G d mX12_laysYears 21 [(0, .ref 98), (1, .ref w), (2, .int (jI t))] [] τ Q := by
    intro n
    induction n with
    | zero =>
      intro t τ ht hF h0 h1 hI
      have hru' : ∀ k, k < 14 → τ.1 101 k = jI (ru k) := fun k hk => by rw [hF.1 101 (by decide)]; exact hru k hk
      refine wX12_laysYears [] 40 ?_
      refine ldI 14 1 (hru' 1 (by omega)) ?_
      refine brlt (ru 1) t (fun _ => ?_) (fun h => by omega)
      exact hq τ hF ⟨ham0, fun j hj => hI j (by omega)⟩
    | succ n ih =>
      intro t τ ht hF h0 h1 hI
      push_cast at ht
      -- from 103 on: the price, the next year
      have t103 : ∀ τ : Mm, Fr [112, 113, 114] σ τ → τ.1 112 0 = jI (ru 0) → τ.1 113 0 = jI 0 → (∀ j : Nat, j < t → τ.1 112 j = jI (zl ru am j) ∧ τ.1 113 j = jI (zp ru am j) ∧ τ.1 114 j = jI (zpr ru am j)) → τ.1 112 t = jI (zl ru am t) → τ.1 113 t = jI (zp ru am t) → Wp l G d mX12_laysYears 103 [(0, .ref 98), (1, .ref w), (2, .int (jI t))] [] τ Q := by
        intro τ hF h0 h1 hI h2 h3
        have hru' : ∀ k, k < 14 → τ.1 101 k = jI (ru k) := fun k hk => by rw [hF.1 101 (by decide)]; exact hru k hk
        have hl := zl_in hr ham0 t
        have h8 := mul_le_c (a := (t : Int)) (b := ru 8) (A := 12) (B := 99) (by omega) (by omega) (by omega) (by omega)
        have fin : Wp l G d mX12_laysYears 21 [(0, .ref 98), (1, .ref w), (2, .int (jI t + 1))] [] (uI τ 114 t (jI (zpr ru am t))) Q := by
          have e : jI (t : Int) + 1 = jI ((t + 1 : Nat) : Int) := by first | rfl | assumption | (simp only [jlit, jneg, jadd, jsub, jmul]; done) | (simp only [jlit, jneg, jadd, jsub, jmul]; congr 1 <;> omega) | (congr 1 <;> omega)
          rw [e]
          refine ih (t + 1) _ (by push_cast; omega) (hF.uI (by decide)) ?_ ?_ ?_
          · rw [uI_n (by decide)]; exact h0
          · rw [uI_n (by decide)]; exact h1
          · intro j hj
            rw [uI_n (by decide), uI_n (by decide), uI_s]
            by_cases e : j = t
            · subst e
              rw [upd_s]
              exact ⟨h2, h3, rfl⟩
            · rw [upd_n e]
              exact hI j (by omega)
        refine wX12_laysYears [(21, [0, 1, 2])] 80 ?_
        refine ldI 14 7 (hru' 7 (by omega)) ?_
        refine ldI 14 8 (hru' 8 (by omega)) ?_
        refine ldI 13 t h2 ?_
        have hm := mul_le_c hl.1 hl.2 (b := max 0 (ru 7 - t * ru 8)) (B := 999) (by omega) (by omega)
        refine brle 0 (ru 7 - t * ru 8) (fun h5 => ?_) (fun h5 => ?_)
        · refine ldI 13 t h2 ?_
          refine And.intro (by decide) ?_
          refine stI 13 t ?_
          have e : jI (zl ru am t) + jI (zl ru am t) * (jI (ru 7) - jI t * jI (ru 8)) / 1000 = jI (zpr ru am t) := by
            unfold zpr
            rw [show max 0 (ru 7 - (t : Int) * ru 8) = ru 7 - t * ru 8 by omega] at hm ⊢
            rw [jlit, jmul, jsub, jmul, jdiv hm.1 (by omega) (by omega) (by omega), jadd]
          rw [← e] at fin
          exact fin
        · refine stI 13 t ?_
          have e : jI (zl ru am t) + 0 = jI (zpr ru am t) := by
            unfold zpr
            rw [show max 0 (ru 7 - (t : Int) * ru 8) = 0 by omega, jlit, jadd]
            simp
          rw [← e] at fin
          exact fin
      have hru' : ∀ k, k < 14 → τ.1 101 k = jI (ru k) := fun k hk => by rw [hF.1 101 (by decide)]; exact hru k hk
      have ew : τ.1 w = σ.1 w := hF.1 w hw2
      refine wX12_laysYears [(103, [0, 1, 2]), (82, [0, 1, 2])] 80 ?_
      refine ldI 14 1 (hru' 1 (by omega)) ?_
      refine brlt (ru 1) t (fun h => by omega) (fun h5 => ?_)
      refine brle t 0 (fun h6 => ?_) (fun h6 => ?_)
      · have : t = 0 := by omega
        subst this
        exact t103 τ hF h0 h1 hI h0 h1
      · obtain ⟨k, rfl⟩ : ∃ k, t = k + 1 := ⟨t - 1, by omega⟩
        obtain ⟨i1, i2, i3⟩ := hI k (by omega)
        have hl := zl_in hr ham0 k
        have t82 : Wp l G d mX12_laysYears 82 [(0, .ref 98), (1, .ref w), (2, .int (jI ((k + 1 : Nat) : Int)))] [] (uI τ 113 (k + 1) (jI (zp ru am (k + 1)))) Q := by
          refine wX12_laysYears [(103, [0, 1, 2])] 80 ?_
          have j1 : (uI τ 113 (k + 1) (jI (zp ru am (k + 1)))).1 112 k = jI (zl ru am k) := by rw [uI_n (by decide)]; exact i1
          have j2 : (uI τ 113 (k + 1) (jI (zp ru am (k + 1)))).1 113 (k + 1) = jI (zp ru am (k + 1)) := by rw [uI_s, upd_s]
          refine ldI 13 k j1 ?_
          refine ldI 13 (k + 1) j2 ?_
          refine stI 13 (k + 1) ?_
          have e : jI (zl ru am k) - jI (zp ru am (k + 1)) = jI (zl ru am (k + 1)) := by rw [jsub]; rfl
          rw [e]
          refine t103 _ ((hF.uI (by decide)).uI (by decide)) ?_ ?_ ?_ ?_ ?_
          · rw [uI_s, upd_n (by omega), uI_n (by decide)]; exact h0
          · rw [uI_n (by decide), uI_s, upd_n (by omega)]; exact h1
          · intro j hj
            rw [uI_s, upd_n (by omega), uI_n (by decide), uI_n (by decide), uI_s, upd_n (by omega), uI_n (by decide), uI_n (by decide)]
            exact hI j hj
          · rw [uI_s, upd_s]
          · rw [uI_n (by decide), uI_s, upd_s]
        have hwv : τ.1 w (12 + (k + 1)) = jI (am (k + 1)) := by rw [ew]; exact (ham (k + 1) (by omega)).1
        refine ldI (lenI w) (12 + (k + 1)) hwv ?_
        have ha := ham0 (k + 1)
        have ha2 := (ham (k + 1) (by omega)).2
        refine ldI 14 1 (hru' 1 (by omega)) ?_
        refine breq ((k + 1 : Nat) : Int) (ru 1) (fun h7 => ?_) (fun h7 => ?_)
        · refine ldI 13 k i1 ?_
          refine stI 13 (k + 1) ?_
          rw [show zp ru am (k + 1) = zl ru am k from if_pos (by push_cast at h7; exact h7)] at t82
          exact t82
        · refine ldI 13 k i1 ?_
          refine brle (am (k + 1)) (zl ru am k) (fun h8 => ?_) (fun h8 => ?_)
          · refine stI 13 (k + 1) ?_
            rw [show zp ru am (k + 1) = am (k + 1) by show (if _ then _ else _) = _; rw [if_neg (by push_cast at h7; exact h7)]; omega] at t82
            exact t82
          · refine ldI 13 k i1 ?_
            refine stI 13 (k + 1) ?_
            rw [show zp ru am (k + 1) = zl ru am k by show (if _ then _ else _) = _; rw [if_neg (by push_cast at h7; exact h7)]; omega] at t82
            exact t82
  refine vX12_laysYears [(21, [0, 1, 2])] 40 ?_
  refine ldI 14 0 (hru 0 (by omega)) ?_
  refine stI 13 0 ?_
  refine stI 13 0 ?_
  refine key ((ru 1).toNat + 1) 0 _ (by push_cast; omega) ((Fr.rf.uI (by decide)).uI (by decide)) ?_ ?_ (fun j hj => absurd hj (Nat.not_lt_zero j))
  · rw [uI_n (by decide), uI_s, upd_s]
  · rw [uI_s, upd_s]; rfl
end ML4
