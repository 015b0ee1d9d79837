-- notices, years
section MB
variable {l : Launch} {G : GT} {d : Nat} {σ : Mm} {Q : Po} {ru : Nat → Int} {w : Nat} {W : Wk}
theorem LY.fz {τ : Mm} {am : Nat → Int} (h : LY σ ru am) (hw : Wr w) (f : Fz w σ τ) : LY τ ru am := by
  obtain ⟨n98, n101, n112, n113, n114⟩ := hw.ne
  exact h.fr (f.1 112 (by decide) (Ne.symm n112)) (f.1 113 (by decide) (Ne.symm n113)) (f.1 114 (by decide) (Ne.symm n114))
theorem ME.fz {τ : Mm} (h : ME σ ru) (hw : Wr w) (f : Fz w σ τ) : ME τ ru := h.fr (f.1 101 (by decide) (Ne.symm hw.ne.2.1))
theorem c_givesNotice {x : Int32} (t h : Nat) (ki : Int) (hw : Wr w) (hE : ME σ ru) (hM : Mr σ ru w W) (hs : σ.1 98 27 = 0) (hL : LY σ ru W.am) (h0 : W.f 0 = t) (h1 : W.f 1 = h) (ht : (t : Int) < ru 1) (hh : h ≤ t) (hki : 0 ≤ ki ∧ ki ≤ 2)
    (hq : ∀ τ, Fz w σ τ → τ.1 98 33 = jI (wGiveC ru W ki) → Mr τ ru w (wGive ru W ki) → Q none τ) (ex : x = jI ki := by first | rfl | assumption | (simp only [jlit, jneg, jadd, jsub, jmul]; done) | (simp only [jlit, jneg, jadd, jsub, jmul]; congr 1 <;> omega) | (congr 1 <;> omega)) : MW l G (d + 4) mX12_givesNotice [.ref 98, .ref w, .int x] σ Q := by
  have hr := hE.1
  have hr' := hr
  unfold RB at hr'
  obtain ⟨n98, n101, n112, n113, n114⟩ := hw.ne
  unfold wGive wGiveC at hq
  obtain ⟨σ1, e1⟩ : ∃ σ1, σ1 = uI (uI σ 98 33 0) w 4 x := ⟨_, rfl⟩
  have m1 : Mr σ1 ru w (W.put 4 ki) := by rw [e1]; exact (hM.fr (fun k _ => by rw [uI_n n98]) hr).put 4 ki (hv := ex)
  have f1 : Fz w σ σ1 := by rw [e1]; exact (Fz.rf.came n98).row n98
  have hE1 := hE.fz hw f1
  obtain ⟨σ2, e2⟩ : ∃ σ2, σ2 = uI σ1 w 5 (jI (ru 10)) := ⟨_, rfl⟩
  have m2 : Mr σ2 ru w ((W.put 4 ki).put 5 (ru 10)) := by rw [e2]; exact m1.put 5 _
  have f2 : Fz w σ σ2 := by rw [e2]; exact f1.row n98
  have hE2 := hE.fz hw f2
  have c2 : σ2.1 98 33 = jI 0 := by rw [e2, uI_n (Ne.symm n98), e1, uI_n (Ne.symm n98), uI_at]; rfl
  have hs2 : σ2.1 98 27 = 0 := (f2.2.2.1 27 (by decide)).trans hs
  have hw' := hw
  have run : ru 10 = 0 → MW l G (d + 3) mX12_runsOut [.ref 98, .ref w] σ2 (fun _ τ => Q none τ) := by
    intro z
    rw [if_pos z, if_pos z] at hq
    refine c_runsOut t h 0 hw hE2 m2 hs2 (hL.fz hw f2) h0 h1 ht hh c2 hki (fun τ g1 g2 g3 => hq τ (f2.tr g1) (by rw [g2, Int.zero_add]) g3)
  have stay : ru 10 ≠ 0 → Q none σ2 := by
    intro z
    rw [if_neg z, if_neg z] at hq
    exact hq σ2 f2 c2 m2
  rcases hw with rfl | rfl | rfl <;>
  · refine vX12_givesNotice [] 60 ?_
    refine stI 494 4 ?_
    subst e1
    refine ldI 14 10 (hE1.2 10 (by omega)) ?_
    refine stI 494 5 ?_
    subst e2
    refine ldI 14 10 (hE2.2 10 (by omega)) ?_
    refine breq (ru 10) 0 (fun z => ?_) (fun z => ?_)
    · rw [if_pos z, if_pos z] at hq
      refine c_runsOut t h 0 hw' hE2 m2 hs2 (hL.fz hw' f2) h0 h1 ht hh c2 hki (fun τ g1 g2 g3 => ?_)
      exact hq τ (f2.tr g1) (by rw [g2, Int.zero_add]) g3
    · exact stay z
theorem c_passes {x : Int32} (t h : Nat) (up : Int) (hw : Wr w) (hE : ME σ ru) (hM : Mr σ ru w W) (hs : σ.1 98 27 = 0) (hL : LY σ ru W.am) (h0 : W.f 0 = t) (h1 : W.f 1 = h) (ht : (t : Int) < ru 1) (hh : h ≤ t) (hup : up = 0 ∨ up = 1) (hcp : 0 ≤ W.f 2 ∧ W.f 2 ≤ 999) (hki : 0 ≤ W.f 4 ∧ W.f 4 ≤ 2) (hst : W.f 4 ≠ 0 → 1 ≤ W.f 5 ∧ W.f 5 ≤ 2 ∧ (t : Int) + W.f 5 < ru 1)
    (hq : ∀ τ, Fz w σ τ → τ.1 98 33 = jI (wPassC ru W) → Mr τ ru w (wPass ru W up) → Q none τ) (ex : x = jI up := by first | rfl | assumption | (simp only [jlit, jneg, jadd, jsub, jmul]; done) | (simp only [jlit, jneg, jadd, jsub, jmul]; congr 1 <;> omega) | (congr 1 <;> omega)) : MW l G (d + 4) mX12_passes [.ref 98, .ref w, .int x] σ Q := by
  have hr := hE.1
  have hr' := hr
  unfold RB at hr'
  obtain ⟨n98, n101, n112, n113, n114⟩ := hw.ne
  have et : W.t = t := by unfold Wk.t; rw [h0]; rfl
  obtain ⟨σ1, e1⟩ : ∃ σ1, σ1 = uI (uI σ 98 33 0) w 0 (jI t + 1) := ⟨_, rfl⟩
  have m0 : Mr (uI σ 98 33 0) ru w W := hM.fr (fun k _ => by rw [uI_n n98]) hr
  have m1 : Mr σ1 ru w (W.put 0 (W.f 0 + 1)) := by rw [e1]; exact m0.put 0 _ (hv := by rw [h0]; first | rfl | assumption | (simp only [jlit, jneg, jadd, jsub, jmul]; done) | (simp only [jlit, jneg, jadd, jsub, jmul]; congr 1 <;> omega) | (congr 1 <;> omega))
  have f1 : Fz w σ σ1 := by rw [e1]; exact (Fz.rf.came n98).row n98
  obtain ⟨σ2, e2⟩ : ∃ σ2, σ2 = uI σ1 w 1 (jI h + x) := ⟨_, rfl⟩
  have m2 : Mr σ2 ru w ((W.put 0 (W.f 0 + 1)).put 1 (W.f 1 + up)) := by rw [e2]; exact m1.put 1 _ (hv := by rw [ex, h1]; first | rfl | assumption | (simp only [jlit, jneg, jadd, jsub, jmul]; done) | (simp only [jlit, jneg, jadd, jsub, jmul]; congr 1 <;> omega) | (congr 1 <;> omega))
  have f2 : Fz w σ σ2 := by rw [e2]; exact f1.row n98
  have hE2 := hE.fz hw f2
  have hL2 := hL.fz hw f2
  have c2 : σ2.1 98 33 = 0 := by rw [e2, uI_n (Ne.symm n98), e1, uI_n (Ne.symm n98), uI_at]
  have a2 : σ2.1 w 2 = jI (W.f 2) := m2.1 2 (by omega)
  have a0 : σ2.1 w 0 = jI ((t + 1 : Nat) : Int) := by rw [m2.1 0 (by omega)]; show jI (W.f 0 + 1) = _; rw [h0]; rfl
  obtain ⟨dz, hdz⟩ : ∃ z, z = zd ru W.am (W.f 2) (t + 1) := ⟨_, rfl⟩
  obtain ⟨iz, hiz⟩ : ∃ z, z = zi ru W.am (W.f 2) (t + 1) := ⟨_, rfl⟩
  obtain ⟨σ3, e3⟩ : ∃ σ3, σ3 = uI (uI σ2 w 7 (σ2.1 w 7 + jI dz)) 98 33 (σ2.1 98 33 + jI dz) := ⟨_, rfl⟩
  have m3 : Mr σ3 ru w (((W.put 0 (W.f 0 + 1)).put 1 (W.f 1 + up)).put 7 (W.f 7 + dz)) := by
    rw [e3]
    refine (m2.put 7 (W.f 7 + dz) (hv := ?_)).fr (fun k _ => by rw [uI_n n98]) hr
    rw [m2.1 7 (by omega), jadd]
    rfl
  have f3 : Fz w σ σ3 := by rw [e3]; exact (f2.row n98).came n98
  have hE3 := hE.fz hw f3
  have hL3 := hL.fz hw f3
  have c3 : σ3.1 98 33 = jI dz := by rw [e3, uI_at, c2, jlit, jadd, Int.zero_add]
  have b8 : σ3.1 w 8 = jI (W.f 8) := m3.1 8 (by omega)
  have b2 : σ3.1 w 2 = jI (W.f 2) := m3.1 2 (by omega)
  have b0 : σ3.1 w 0 = jI ((t + 1 : Nat) : Int) := by rw [m3.1 0 (by omega)]; show jI (W.f 0 + 1) = _; rw [h0]; rfl
  obtain ⟨σ4, e4⟩ : ∃ σ4, σ4 = uI σ3 w 8 (jI (W.f 8) + jI iz) := ⟨_, rfl⟩
  have m4 : Mr σ4 ru w (wPass1 ru W up) := by
    rw [e4]
    unfold wPass1
    rw [et, ← hdz, ← hiz]
    exact m3.put 8 _
  have f4 : Fz w σ σ4 := by rw [e4]; exact f3.row n98
  have c4 : σ4.1 98 33 = jI dz := by rw [e4, uI_n (Ne.symm n98)]; exact c3
  have b4 : σ4.1 w 4 = jI (W.f 4) := m4.1 4 (by omega)
  have b5 : σ4.1 w 5 = jI (W.f 5) := m4.1 5 (by omega)
  unfold wPass wPassC at hq
  rw [et, ← hdz, h0] at hq
  -- the year's end
  have hw' := hw
  have last : ∀ (τ : Mm) (c : Int), Fz w σ τ → τ.1 98 33 = jI c → Mr τ ru w (wPass2 ru (wPass1 ru W up)) → (∀ τ, Fz w σ τ → τ.1 98 33 = jI c → Mr τ ru w (if (t : Int) + 1 = ru 1 then (wPass2 ru (wPass1 ru W up)).put 6 1 else wPass2 ru (wPass1 ru W up)) → Q none τ) → (wPass2 ru (wPass1 ru W up)).f 0 = (t : Int) + 1 → Wp l G (d + 4) mX12_passes 75 [(0, .ref 98), (1, .ref w)] [] τ Q := by
    intro τ c g1 g2 g3 hq g0
    have hEt := hE.fz hw g1
    have z0 : τ.1 w 0 = jI ((t : Int) + 1) := by rw [g3.1 0 (by omega), g0]
    have y6 := g3.put 6 1 (v := 1)
    have f6 := g1.row (k := 6) (v := 1) n98
    rcases hw with rfl | rfl | rfl <;>
    · refine wX12_passes [] 40 ?_
      refine ldI 494 0 z0 ?_
      refine ldI 14 1 (hEt.2 1 (by omega)) ?_
      refine breq ((t : Int) + 1) (ru 1) (fun z => ?_) (fun z => ?_)
      · refine stI 494 6 ?_
        rw [if_pos z] at hq
        exact hq _ f6 (by rw [uI_n (by decide)]; exact g2) y6
      · rw [if_neg z] at hq
        exact hq _ g1 g2 g3
  have at51 : Wp l G (d + 4) mX12_passes 51 [(0, .ref 98), (1, .ref w)] [] σ4 Q := by
    by_cases hk0 : W.f 4 = 0
    · have e : wPass2 ru (wPass1 ru W up) = wPass1 ru W up := if_pos hk0
      have hl := last σ4 dz f4 c4 (by rw [e]; exact m4) (fun τ g1 g2 g3 => hq τ g1 (by rw [if_pos hk0, Int.add_zero]; exact g2) g3) (by rw [e]; show W.f 0 + 1 = _; rw [h0])
      rcases hw with rfl | rfl | rfl <;>
      · refine wX12_passes [(75, [0, 1])] 40 ?_
        refine ldI 494 4 b4 ?_
        refine breq (W.f 4) 0 (fun _ => ?_) (fun z => absurd hk0 z)
        exact hl
    · obtain ⟨s1, s2, s3⟩ := hst hk0
      obtain ⟨σ5, e5⟩ : ∃ σ5, σ5 = uI σ4 w 5 (jI (W.f 5) - 1) := ⟨_, rfl⟩
      have m5 : Mr σ5 ru w ((wPass1 ru W up).put 5 (W.f 5 - 1)) := by rw [e5]; exact m4.put 5 _
      have f5 : Fz w σ σ5 := by rw [e5]; exact f4.row n98
      have c5 : σ5.1 98 33 = jI dz := by rw [e5, uI_n (Ne.symm n98)]; exact c4
      have d5 : σ5.1 w 5 = jI (W.f 5 - 1) := m5.1 5 (by omega)
      have hs5 : σ5.1 98 27 = 0 := (f5.2.2.1 27 (by decide)).trans hs
      by_cases h50 : W.f 5 - 1 = 0
      · have e : wPass2 ru (wPass1 ru W up) = wRun ru ((wPass1 ru W up).put 5 (W.f 5 - 1)) := (if_neg hk0).trans (if_pos h50)
        have hf0 : (wRun ru ((wPass1 ru W up).put 5 (W.f 5 - 1))).f 0 = (t : Int) + 1 := by
          unfold wRun
          split
          · show W.f 0 + 1 = _; rw [h0]
          · show W.f 0 + 1 = _; rw [h0]
        have hl : ∀ τ, Fz w σ5 τ → τ.1 98 33 = jI (dz + wRunC ru ((wPass1 ru W up).put 5 (W.f 5 - 1))) → Mr τ ru w (wRun ru ((wPass1 ru W up).put 5 (W.f 5 - 1))) → Wp l G (d + 4) mX12_passes 75 [(0, .ref 98), (1, .ref w)] [] τ Q := fun τ g1 g2 g3 => last τ _ (f5.tr g1) g2 (by rw [e]; exact g3) (fun τ g1 g2 g3 => hq τ g1 (by rw [if_neg hk0, if_pos h50]; exact g2) g3) (by rw [e]; exact hf0)
        have hl1 : ((wPass1 ru W up).put 5 (W.f 5 - 1)).f 0 = ((t + 1 : Nat) : Int) := by show W.f 0 + 1 = _; rw [h0]; rfl
        have hl2 : ((wPass1 ru W up).put 5 (W.f 5 - 1)).f 1 = ((h + up.toNat : Nat) : Int) := by show W.f 1 + up = _; rw [h1]; omega
        have hE5 := hE.fz hw f5
        have hL5 := hL.fz hw f5
        rcases hw with rfl | rfl | rfl <;>
        · refine wX12_passes [(75, [0, 1])] 60 ?_
          refine ldI 494 4 b4 ?_
          refine breq (W.f 4) 0 (fun z => absurd z hk0) (fun _ => ?_)
          refine ldI 494 5 b5 ?_
          refine stI 494 5 ?_
          subst e5
          refine ldI 494 5 d5 ?_
          refine breq (W.f 5 - 1) 0 (fun _ => ?_) (fun z => absurd h50 z)
          refine c_runsOut (t + 1) (h + up.toNat) dz hw' hE5 m5 hs5 hL5 hl1 hl2 (by push_cast; omega) (by omega) c5 hki (fun τ g1 g2 g3 => ?_)
          exact hl τ g1 g2 g3
      · have e : wPass2 ru (wPass1 ru W up) = (wPass1 ru W up).put 5 (W.f 5 - 1) := (if_neg hk0).trans (if_neg h50)
        have hl := last σ5 dz f5 c5 (by rw [e]; exact m5) (fun τ g1 g2 g3 => hq τ g1 (by rw [if_neg hk0, if_neg h50, Int.add_zero]; exact g2) g3) (by rw [e]; show W.f 0 + 1 = _; rw [h0])
        rcases hw with rfl | rfl | rfl <;>
        · refine wX12_passes [(75, [0, 1])] 60 ?_
          refine ldI 494 4 b4 ?_
          refine breq (W.f 4) 0 (fun z => absurd z hk0) (fun _ => ?_)
          refine ldI 494 5 b5 ?_
          refine stI 494 5 ?_
          subst e5
          refine ldI 494 5 d5 ?_
          refine breq (W.f 5 - 1) 0 (fun z => absurd z h50) (fun _ => ?_)
          exact hl
  have g0 : (uI σ 98 33 0).1 w 0 = jI t := by rw [m0.1 0 (by omega), h0]
  have g1 : σ1.1 w 1 = jI h := by rw [m1.1 1 (by omega)]; show jI (W.f 1) = _; rw [h1]
  rw [hdz] at e3
  rw [hiz] at e4
  rcases hw with rfl | rfl | rfl <;>
  · refine vX12_passes [(51, [0, 1])] 60 ?_
    refine ldI 494 0 g0 ?_
    refine stI 494 0 ?_
    subst e1
    refine ldI 494 1 g1 ?_
    refine stI 494 1 ?_
    subst e2
    refine ldI 494 2 a2 ?_
    refine ldI 494 0 a0 ?_
    refine c_due (W.f 2) (t + 1) hr hL2 (by omega) (by push_cast; omega) hcp ?_
    refine c_pays hw' ?_
    subst e3
    refine ldI 494 8 b8 ?_
    refine ldI 494 2 b2 ?_
    refine ldI 494 0 b0 ?_
    refine c_interest (W.f 2) (t + 1) hr hL3 (by omega) (by push_cast; omega) hcp ?_
    refine stI 494 8 ?_
    subst e4
    exact at51
end MB
