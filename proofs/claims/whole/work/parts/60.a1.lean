-- a loan's row and what acts make of it
def Wk : Type := (Nat → Int) × (Nat → Int) × (Nat → Nat → Int) × (Nat → Nat → Int)
def Wk.f (W : Wk) : Nat → Int := W.1
def Wk.am (W : Wk) : Nat → Int := W.2.1
def Wk.ra (W : Wk) : Nat → Nat → Int := W.2.2.1
def Wk.de (W : Wk) : Nat → Nat → Int := W.2.2.2
/-- places, in the reference's order: 0 year, 1 height, 2 coupon, 3 refunds left, 4 kind of notice, 5 years that it runs, 6 ended, 7 paid, 8 interest, 9 premiums, 10 fees, 11 renewed -/
def Wk.put (W : Wk) (k : Nat) (z : Int) : Wk := (fun j => if j = k then z else W.1 j, W.2)
def Wk.t (W : Wk) : Nat := (W.f 0).toNat
def Wk.h (W : Wk) : Nat := (W.f 1).toNat
def wRun (ru : Nat → Int) (W : Wk) : Wk :=
  if W.f 4 = 1 then ((((W.put 9 (W.f 9 + (zpr ru W.am W.t - zl ru W.am W.t))).put 7 (W.f 7 + zpr ru W.am W.t)).put 6 1).put 4 0).put 5 0
  else (((((((W.put 9 (W.f 9 + (zpr ru W.am W.t - zl ru W.am W.t))).put 7 (W.f 7 + (zpr ru W.am W.t - zl ru W.am W.t + ru 13))).put 10 (W.f 10 + ru 13)).put 2 (zcp ru W.ra W.t W.h)).put 3 (W.f 3 - 1)).put 11 (W.f 11 + 1)).put 4 0).put 5 0
def wRunC (ru : Nat → Int) (W : Wk) : Int := if W.f 4 = 1 then zpr ru W.am W.t else zpr ru W.am W.t - zl ru W.am W.t + ru 13
def wGive (ru : Nat → Int) (W : Wk) (ki : Int) : Wk := if ru 10 = 0 then wRun ru ((W.put 4 ki).put 5 (ru 10)) else (W.put 4 ki).put 5 (ru 10)
def wGiveC (ru : Nat → Int) (W : Wk) (ki : Int) : Int := if ru 10 = 0 then wRunC ru ((W.put 4 ki).put 5 (ru 10)) else 0
def wPass1 (ru : Nat → Int) (W : Wk) (up : Int) : Wk := (((W.put 0 (W.f 0 + 1)).put 1 (W.f 1 + up)).put 7 (W.f 7 + zd ru W.am (W.f 2) (W.t + 1))).put 8 (W.f 8 + zi ru W.am (W.f 2) (W.t + 1))
def wPass2 (ru : Nat → Int) (W : Wk) : Wk := if W.f 4 = 0 then W else if W.f 5 - 1 = 0 then wRun ru (W.put 5 (W.f 5 - 1)) else W.put 5 (W.f 5 - 1)
def wPass (ru : Nat → Int) (W : Wk) (up : Int) : Wk := if W.f 0 + 1 = ru 1 then (wPass2 ru (wPass1 ru W up)).put 6 1 else wPass2 ru (wPass1 ru W up)
def wPassC (ru : Nat → Int) (W : Wk) : Int := zd ru W.am (W.f 2) (W.t + 1) + (if W.f 4 = 0 then 0 else if W.f 5 - 1 = 0 then wRunC ru ((wPass1 ru W 0).put 5 (W.f 5 - 1)) else 0)
def Wr (w : Nat) : Prop := w = 108 ∨ w = 109 ∨ w = 118
/-- the reference's row -/
def Mr (σ : Mm) (ru : Nat → Int) (w : Nat) (W : Wk) : Prop := (∀ k, k < 12 → σ.1 w k = jI (W.f k)) ∧ (∀ j, j < 13 → σ.1 w (12 + j) = jI (W.am j)) ∧ (∀ t h : Nat, (t : Int) < ru 1 → h ≤ t → ∃ tr : Int, σ.1 w (25 + (12 * t + h)) = jI tr ∧ (tr = -1 ∨ 0 ≤ tr ∧ tr ≤ 999) ∧ W.ra t h = zra ru tr 0 t h) ∧ (∀ t h : Nat, (t : Int) < ru 1 → h ≤ t → σ.1 w (169 + (12 * t + h)) = jI (W.de t h))
def ME (σ : Mm) (ru : Nat → Int) : Prop := RB ru ∧ ∀ k, k < 14 → σ.1 101 k = jI (ru k)
theorem ME.fr {σ τ : Mm} {ru : Nat → Int} (h : ME σ ru) (e : τ.1 101 = σ.1 101) : ME τ ru := ⟨h.1, fun k hk => by rw [e]; exact h.2 k hk⟩
theorem Mr.fr {σ τ : Mm} {ru : Nat → Int} {w : Nat} {W : Wk} (h : Mr σ ru w W) (e : ∀ k, k < 313 → τ.1 w k = σ.1 w k) (hr : RB ru) : Mr τ ru w W := by
  have h12 : ru 1 ≤ 12 := by unfold RB at hr; omega
  refine ⟨fun k hk => by rw [e k (by omega)]; exact h.1 k hk, fun j hj => by rw [e _ (by omega)]; exact h.2.1 j hj, fun t k q1 q2 => ?_, fun t k q1 q2 => by rw [e _ (by omega)]; exact h.2.2.2 t k q1 q2⟩
  rw [e _ (by omega)]
  exact h.2.2.1 t k q1 q2
theorem Mr.put {σ : Mm} {ru : Nat → Int} {w : Nat} {W : Wk} (h : Mr σ ru w W) (k : Nat) (z : Int) {v : Int32} (hk : k < 12 := by omega) (hv : v = jI z := by first | rfl | assumption | (simp only [jlit, jneg, jadd, jsub, jmul]; done) | (simp only [jlit, jneg, jadd, jsub, jmul]; congr 1 <;> omega) | (congr 1 <;> omega)) : Mr (uI σ w k v) ru w (W.put k z) := by
  subst hv
  refine ⟨fun j hj => ?_, fun j hj => by rw [uI_ne (Or.inr (by omega))]; exact h.2.1 j hj, fun t j q1 q2 => ?_, fun t j q1 q2 => by rw [uI_ne (Or.inr (by omega))]; exact h.2.2.2 t j q1 q2⟩
  · show _ = jI (if j = k then z else W.f j)
    by_cases e : j = k
    · rw [if_pos e, e, uI_at]
    · rw [if_neg e, uI_ne (Or.inr e)]
      exact h.1 j hj
  · rw [uI_ne (Or.inr (by omega))]
    exact h.2.2.1 t j q1 q2
theorem Mr.PM {σ : Mm} {ru : Nat → Int} {w : Nat} {W : Wk} (h : Mr σ ru w W) (hE : ME σ ru) (hw : Wr w) (hs : σ.1 98 27 = 0) : PM σ w ru W.ra := ⟨hE.1, by rcases hw with rfl | rfl | rfl <;> decide, hE.2, 0, hs, by omega, by omega, h.2.2.1⟩
/-- only the row's numbers and what came are others -/
def Fz (w : Nat) (σ τ : Mm) : Prop := (∀ a, a ≠ 98 → a ≠ w → τ.1 a = σ.1 a) ∧ τ.2 = σ.2 ∧ (∀ k, k ≠ 33 → τ.1 98 k = σ.1 98 k) ∧ (∀ k, 12 ≤ k → τ.1 w k = σ.1 w k)
theorem Fz.rf {w : Nat} {σ : Mm} : Fz w σ σ := ⟨fun _ _ _ => rfl, rfl, fun _ _ => rfl, fun _ _ => rfl⟩
theorem Fz.tr {w : Nat} {σ τ ρ : Mm} (h : Fz w σ τ) (g : Fz w τ ρ) : Fz w σ ρ := ⟨fun a h1 h2 => (g.1 a h1 h2).trans (h.1 a h1 h2), g.2.1.trans h.2.1, fun k hk => (g.2.2.1 k hk).trans (h.2.2.1 k hk), fun k hk => (g.2.2.2 k hk).trans (h.2.2.2 k hk)⟩
theorem Fz.row {w : Nat} {σ τ : Mm} {k : Nat} {v : Int32} (h : Fz w σ τ) (hw : w ≠ 98) (hk : k < 12 := by omega) : Fz w σ (uI τ w k v) := ⟨fun a h1 h2 => by rw [uI_n h2]; exact h.1 a h1 h2, h.2.1, fun j hj => by rw [uI_n (Ne.symm hw)]; exact h.2.2.1 j hj, fun j hj => by rw [uI_ne (Or.inr (by omega))]; exact h.2.2.2 j hj⟩
theorem Fz.came {w : Nat} {σ τ : Mm} {v : Int32} (h : Fz w σ τ) (hw : w ≠ 98) : Fz w σ (uI τ 98 33 v) := ⟨fun a h1 h2 => by rw [uI_n h1]; exact h.1 a h1 h2, h.2.1, fun j hj => by rw [uI_ne (Or.inr hj)]; exact h.2.2.1 j hj, fun j hj => by rw [uI_n hw]; exact h.2.2.2 j hj⟩
theorem Wr.ne {w : Nat} (h : Wr w) : w ≠ 98 ∧ w ≠ 101 ∧ w ≠ 112 ∧ w ≠ 113 ∧ w ≠ 114 := by unfold Wr at h; omega
section MA
variable {l : Launch} {G : GT} {d : Nat} {σ : Mm} {Q : Po} {ru : Nat → Int} {w : Nat} {W : Wk}
theorem c_pays {v : Int32} (hw : Wr w) (hq : Q none (uI (uI σ w 7 (σ.1 w 7 + v)) 98 33 (σ.1 98 33 + v))) : MW l G d mX12_pays [.ref 98, .ref w, .int v] σ Q := by
  rcases hw with rfl | rfl | rfl <;>
  · refine vX12_pays [] 40 ?_
    refine ldI 494 7 rfl ?_
    refine stI 494 7 ?_
    exact hq
theorem c_runsOut (t h : Nat) (c : Int) (hw : Wr w) (hE : ME σ ru) (hM : Mr σ ru w W) (hs : σ.1 98 27 = 0) (hL : LY σ ru W.am) (h0 : W.f 0 = t) (h1 : W.f 1 = h) (ht : (t : Int) < ru 1) (hh : h ≤ t) (hc : σ.1 98 33 = jI c) (hk : 0 ≤ W.f 4 ∧ W.f 4 ≤ 2)
    (hq : ∀ τ, Fz w σ τ → τ.1 98 33 = jI (c + wRunC ru W) → Mr τ ru w (wRun ru W) → Q none τ) : MW l G (d + 3) mX12_runsOut [.ref 98, .ref w] σ Q := by
  have hr := hE.1
  have h12 : ru 1 ≤ 12 := by unfold RB at hr; omega
  obtain ⟨n98, n101, n112, n113, n114⟩ := hw.ne
  have et : W.t = t := by unfold Wk.t; rw [h0]; rfl
  have eh : W.h = h := by unfold Wk.h; rw [h1]; rfl
  have hp := (hL.2 t (by omega)).2.2
  have hl := (hL.2 t (by omega)).1
  unfold wRun wRunC at hq
  rw [et, eh] at hq
  generalize hpz : zpr ru W.am t = p at *
  generalize hlz : zl ru W.am t = q at *
  have hw' := hw
  -- behind the premiums
  obtain ⟨σ1, e1⟩ : ∃ σ1, σ1 = uI σ w 9 (jI (W.f 9) + (jI p - jI q)) := ⟨_, rfl⟩
  have m1 : Mr σ1 ru w (W.put 9 (W.f 9 + (p - q))) := by rw [e1]; exact hM.put 9 _
  have f1 : Fz w σ σ1 := by rw [e1]; exact Fz.rf.row n98
  have hE1 : ME σ1 ru := hE.fr (f1.1 101 (by decide) (Ne.symm n101))
  have hs1 : σ1.1 98 27 = 0 := (f1.2.2.1 27 (by decide)).trans hs
  have l114 : σ1.1 114 t = jI p := by rw [f1.1 114 (by decide) (Ne.symm n114)]; exact hp
  have c1 : σ1.1 98 33 = jI c := by rw [e1, uI_n (Ne.symm n98)]; exact hc
  have k1 : σ1.1 w 4 = jI (W.f 4) := m1.1 4 (by omega)
  by_cases hcall : W.f 4 = 1
  · rw [if_pos hcall, if_pos hcall] at hq
    obtain ⟨σ2, e2⟩ : ∃ σ2, σ2 = uI (uI σ1 w 7 (σ1.1 w 7 + jI p)) 98 33 (σ1.1 98 33 + jI p) := ⟨_, rfl⟩
    have m2 : Mr σ2 ru w ((W.put 9 (W.f 9 + (p - q))).put 7 (W.f 7 + p)) := by
      rw [e2]
      refine (m1.put 7 (W.f 7 + p) (hv := ?_)).fr (fun k _ => by rw [uI_n n98]) hr
      rw [m1.1 7 (by omega), jadd]
      rfl
    have f2 : Fz w σ σ2 := by rw [e2]; exact (f1.row n98).came n98
    have c2 : σ2.1 98 33 = jI (c + p) := by rw [e2, uI_at, c1, jadd]
    have fin : ∀ τ, τ = uI (uI (uI σ2 w 6 1) w 4 0) w 5 0 → Q none τ := by
      intro τ e
      rw [e]
      refine hq _ (((f2.row n98).row n98).row n98) (by rw [uI_n (Ne.symm n98), uI_n (Ne.symm n98), uI_n (Ne.symm n98)]; exact c2) (((m2.put 6 1).put 4 0).put 5 0)
    rcases hw with rfl | rfl | rfl <;>
    · refine vX12_runsOut [] 60 ?_
      refine ldI 494 0 (by rw [hM.1 0 (by omega), h0]) ?_
      refine ldI 13 t hp ?_
      refine ldI 13 t hl ?_
      refine ldI 494 9 (hM.1 9 (by omega)) ?_
      refine stI 494 9 ?_
      subst e1
      refine ldI 494 4 k1 ?_
      refine breq (W.f 4) 1 (fun _ => ?_) (fun z => absurd hcall z)
      refine ldI 13 t l114 ?_
      refine c_pays hw' ?_
      subst e2
      refine stI 494 6 ?_
      refine stI 494 4 ?_
      refine stI 494 5 ?_
      exact fin _ rfl
  · rw [if_neg hcall, if_neg hcall] at hq
    have hP1 := m1.PM hE1 hw hs1
    obtain ⟨σ2, e2⟩ : ∃ σ2, σ2 = uI (uI σ1 w 7 (σ1.1 w 7 + (jI p - jI q + jI (ru 13)))) 98 33 (σ1.1 98 33 + (jI p - jI q + jI (ru 13))) := ⟨_, rfl⟩
    have m2 : Mr σ2 ru w ((W.put 9 (W.f 9 + (p - q))).put 7 (W.f 7 + (p - q + ru 13))) := by
      rw [e2]
      refine (m1.put 7 (W.f 7 + (p - q + ru 13)) (hv := ?_)).fr (fun k _ => by rw [uI_n n98]) hr
      rw [m1.1 7 (by omega), jsub, jadd, jadd]
      rfl
    have f2 : Fz w σ σ2 := by rw [e2]; exact (f1.row n98).came n98
    have hE2 : ME σ2 ru := hE.fr (f2.1 101 (by decide) (Ne.symm n101))
    have c2 : σ2.1 98 33 = jI (c + (p - q + ru 13)) := by rw [e2, uI_at, c1, jsub, jadd, jadd]
    obtain ⟨σ3, e3⟩ : ∃ σ3, σ3 = uI σ2 w 10 (jI (W.f 10) + jI (ru 13)) := ⟨_, rfl⟩
    have m3 : Mr σ3 ru w (((W.put 9 (W.f 9 + (p - q))).put 7 (W.f 7 + (p - q + ru 13))).put 10 (W.f 10 + ru 13)) := by rw [e3]; exact m2.put 10 _
    have f3 : Fz w σ σ3 := by rw [e3]; exact f2.row n98
    have hE3 : ME σ3 ru := hE.fr (f3.1 101 (by decide) (Ne.symm n101))
    have hs3 : σ3.1 98 27 = 0 := (f3.2.2.1 27 (by decide)).trans hs
    have hP3 := m3.PM hE3 hw hs3
    obtain ⟨σ4, e4⟩ : ∃ σ4, σ4 = uI σ3 w 2 (jI (min 999 (W.ra t h + ru 12))) := ⟨_, rfl⟩
    have m4 := m3.put 2 (zcp ru W.ra t h) (v := jI (min 999 (W.ra t h + ru 12))) (hv := rfl)
    rw [← e4] at m4
    have fin : ∀ τ, τ = uI (uI (uI (uI σ4 w 3 (jI (W.f 3) - 1)) w 11 (jI (W.f 11) + 1)) w 4 0) w 5 0 → Q none τ := by
      intro τ e
      rw [e]
      refine hq _ ((((((by rw [e4]; exact f3.row n98 : Fz w σ σ4)).row n98).row n98).row n98).row n98) (by rw [uI_n (Ne.symm n98), uI_n (Ne.symm n98), uI_n (Ne.symm n98), uI_n (Ne.symm n98), e4, uI_n (Ne.symm n98), e3, uI_n (Ne.symm n98)]; exact c2) ((((m4.put 3 (W.f 3 - 1)).put 11 (W.f 11 + 1)).put 4 0).put 5 0)
    have g10 : σ2.1 w 10 = jI (W.f 10) := m2.1 10 (by omega)
    have g1 : σ3.1 w 1 = jI h := by rw [m3.1 1 (by omega), ← h1]; rfl
    have g3 : σ4.1 w 3 = jI (W.f 3) := m4.1 3 (by omega)
    have g11 : (uI σ4 w 3 (jI (W.f 3) - 1)).1 w 11 = jI (W.f 11) := by rw [uI_ne (Or.inr (by omega))]; exact m4.1 11 (by omega)
    rcases hw with rfl | rfl | rfl <;>
    · refine vX12_runsOut [] 80 ?_
      refine ldI 494 0 (by rw [hM.1 0 (by omega), h0]) ?_
      refine ldI 13 t hp ?_
      refine ldI 13 t hl ?_
      refine ldI 494 9 (hM.1 9 (by omega)) ?_
      refine stI 494 9 ?_
      subst e1
      refine ldI 494 4 k1 ?_
      refine breq (W.f 4) 1 (fun z => absurd z hcall) (fun _ => ?_)
      refine ldI 14 13 (hE1.2 13 (by omega)) ?_
      refine c_pays hw' ?_
      subst e2
      refine ldI 494 10 g10 ?_
      refine ldI 14 13 (hE2.2 13 (by omega)) ?_
      refine stI 494 10 ?_
      subst e3
      refine ldI 494 1 g1 ?_
      refine c_newCoupon t h hP3 ht hh ?_
      refine stI 494 2 ?_
      subst e4
      refine ldI 494 3 g3 ?_
      refine stI 494 3 ?_
      refine ldI 494 11 g11 ?_
      refine stI 494 11 ?_
      refine stI 494 4 ?_
      refine stI 494 5 ?_
      exact fin _ rfl
end MA
