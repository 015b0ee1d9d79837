-- passYear of the class
theorem put_id (W : Wk) (k : Nat) (z : Int) (h : W.f k = z) : W.put k z = W := by
  refine Prod.ext (funext fun j => ?_) rfl
  show (if j = k then z else W.1 j) = W.1 j
  by_cases q : j = k
  · rw [if_pos q, q]; exact h.symm
  · rw [if_neg q]
section KV
variable {l : Launch} {G : GT} {d : Nat} {σ : Mm} {Q : Po} {ru : Nat → Int} {W : Wk}
theorem k_passYear {x : Int32} (t h : Nat) (up : Int) (hK : Kr σ 2 W) (hR : RC σ ru) (hL : LC σ ru W.am) (hB : WB ru W) (h6 : W.f 6 = 0) (h0 : W.f 0 = t) (h1 : W.f 1 = h) (hup : up = 0 ∨ up = 1)
    (hq : ∀ τ : Mm, (∀ c, c ≠ 2 → c ≠ 63 → τ.1 c = σ.1 c) → τ.2 = σ.2 → τ.1 63 3 = jI (W.f 0 + 1) → Kr τ 2 (wPass ru W up) → Q (some (.int (jI (wPassC ru W)))) τ) (ex : x = jI up := by first | rfl | assumption | (simp only [jlit, jneg, jadd, jsub, jmul]; done) | (simp only [jlit, jneg, jadd, jsub, jmul]; congr 1 <;> omega) | (congr 1 <;> omega)) : MW l G (d + 3) mX3_passYear [.ref 63, .int x] σ Q := by
  have hr := hR.1
  have hr' := hr
  unfold RB at hr'
  obtain ⟨b1, bc, b3, b4, b6, b7, b8, t1, t2, t3⟩ := hB
  have hT := b7 h6
  have et : W.t = t := by unfold Wk.t; rw [h0]; rfl
  unfold wPass wPassC at hq
  rw [et, h0] at hq
  obtain ⟨dz, hdz⟩ : ∃ z, z = zd ru W.am (W.f 2) (t + 1) := ⟨_, rfl⟩
  obtain ⟨iz, hiz⟩ : ∃ z, z = zi ru W.am (W.f 2) (t + 1) := ⟨_, rfl⟩
  rw [← hdz] at hq
  have last : ∀ (τ : Mm) (c : Int) (w4 : Int32) (V : Wk), (∀ c, c ≠ 2 → c ≠ 63 → τ.1 c = σ.1 c) → τ.2 = σ.2 → τ.1 63 3 = jI ((t : Int) + 1) → Kr τ 2 V → w4 = jI c → (∀ τ : Mm, (∀ c, c ≠ 2 → c ≠ 63 → τ.1 c = σ.1 c) → τ.2 = σ.2 → τ.1 63 3 = jI ((t : Int) + 1) → Kr τ 2 (if (t : Int) + 1 = ru 1 then V.put 6 1 else V) → Q (some (.int (jI c))) τ) → Wp l G (d + 3) mX3_passYear 128 [(0, .ref 63), (2, .int (jI ((t : Int) + 1))), (4, .int w4)] [] τ Q := by
    intro τ c w4 V g1 g2 g3 g4 e4 hq
    subst e4
    have hRt : RC τ ru := hR.fr (g1 1 (by decide) (by decide))
    refine wX3_passYear [] 40 ?_
    refine ldI 14 1 (hRt.2 1 (by omega)) ?_
    refine brlt ((t : Int) + 1) (ru 1) (fun z => ?_) (fun z => ?_)
    · rw [if_neg (by omega)] at hq
      exact hq τ g1 g2 g3 g4
    · rw [if_pos (by omega)] at hq
      refine stI 115 11 ?_
      exact hq _ (fun c h1 h2 => by rw [uI_n h1]; exact g1 c h1 h2) g2 (by rw [uI_n (by decide)]; exact g3) (g4.put 11 1)
  obtain ⟨σ0, e0⟩ : ∃ σ0, σ0 = uI σ 63 3 (jI ((t : Int) + 1)) := ⟨_, rfl⟩
  have m0 : Kr σ0 2 W := by rw [e0]; exact hK.fr (uI_n (by decide))
  have m1 := m0.put 0 (W.f 0 + 1) (v := jI ((t : Int) + 1)) (hv := by rw [h0])
  have g1 : (uI σ0 2 0 (jI ((t : Int) + 1))).1 2 1 = jI h := by rw [m1.1 1 (by omega), ← h1]; rfl
  have m2 := m1.put 1 (W.f 1 + up) (v := jI h + x) (hv := by rw [ex, h1, jadd])
  obtain ⟨σ2, e2⟩ : ∃ σ2, σ2 = uI (uI σ0 2 0 (jI ((t : Int) + 1))) 2 1 (jI h + x) := ⟨_, rfl⟩
  rw [← e2] at m2
  have g7 : σ2.1 2 7 = jI (W.f 8) := m2.1 7 (by omega)
  have m3 := m2.put 7 (W.f 8 + iz) (v := jI (W.f 8) + jI iz)
  have g6 : (uI σ2 2 7 (jI (W.f 8) + jI iz)).1 2 6 = jI (W.f 7) := m3.1 6 (by omega)
  have m4 := m3.put 6 (W.f 7 + dz) (v := jI (W.f 7) + jI dz)
  obtain ⟨σ4, e4⟩ : ∃ σ4, σ4 = uI (uI σ2 2 7 (jI (W.f 8) + jI iz)) 2 6 (jI (W.f 7) + jI dz) := ⟨_, rfl⟩
  rw [← e4] at m4
  have m4 : Kr σ4 2 (wPass1 ru W up) := m4.ex (fun k hk => by
    unfold wPass1
    rw [et, ← hdz, ← hiz]
    rcases c12 hk with rfl | rfl | rfl | rfl | rfl | rfl | rfl | rfl | rfl | rfl | rfl | rfl <;> rfl) rfl
  have f4 : ∀ c, c ≠ 2 → c ≠ 63 → σ4.1 c = σ.1 c := fun c h1 h2 => by rw [e4, uI_n h1, uI_n h1, e2, uI_n h1, uI_n h1, e0, uI_n h2]
  have s4 : σ4.2 = σ.2 := by rw [e4, e2, e0]; rfl
  have n4 : σ4.1 63 3 = jI ((t : Int) + 1) := by rw [e4, uI_n (by decide), uI_n (by decide), e2, uI_n (by decide), uI_n (by decide), e0, uI_at]
  have c4 : σ4.1 2 4 = jI (W.f 4) := m4.1 4 (by omega)
  have c5 : σ4.1 2 5 = jI (W.f 5) := m4.1 5 (by omega)
  have at85 : Wp l G (d + 3) mX3_passYear 85 [(0, .ref 63), (2, .int (jI ((t : Int) + 1))), (4, .int (jI dz))] [] σ4 Q := by
    refine wX3_passYear [(128, [0, 2, 4])] 80 ?_
    refine ldI 115 4 c4 ?_
    refine breq (W.f 4) 0 (fun hk0 => ?_) (fun hk0 => ?_)
    · have e : wPass2 ru (wPass1 ru W up) = wPass1 ru W up := if_pos hk0
      rw [e, if_pos hk0, Int.add_zero] at hq
      exact last σ4 dz _ _ f4 s4 n4 m4 rfl hq
    · have h8 := b8 hk0
      refine ldI 115 5 c5 ?_
      refine stI 115 5 ?_
      have m5 : Kr (uI σ4 2 5 (jI (W.f 5) - 1)) 2 ((wPass1 ru W up).put 5 (W.f 5 - 1)) := m4.put 5 (W.f 5 - 1) (v := jI (W.f 5) - 1)
      have f5 : ∀ c, c ≠ 2 → c ≠ 63 → (uI σ4 2 5 (jI (W.f 5) - 1)).1 c = σ.1 c := fun c h1 h2 => by rw [uI_n h1]; exact f4 c h1 h2
      have n5 : (uI σ4 2 5 (jI (W.f 5) - 1)).1 63 3 = jI ((t : Int) + 1) := by rw [uI_n (by decide)]; exact n4
      have d5 : (uI σ4 2 5 (jI (W.f 5) - 1)).1 2 5 = jI (W.f 5 - 1) := m5.1 5 (by omega)
      have d4 : (uI σ4 2 5 (jI (W.f 5) - 1)).1 2 4 = jI (W.f 4) := m5.1 4 (by omega)
      refine ldI 115 5 d5 ?_
      refine brlt 0 (W.f 5 - 1) (fun z5 => ?_) (fun z5 => ?_)
      · have e : wPass2 ru (wPass1 ru W up) = (wPass1 ru W up).put 5 (W.f 5 - 1) := (if_neg hk0).trans (if_neg (show ¬ W.f 5 - 1 = 0 by omega))
        rw [e, if_neg hk0, if_neg (show ¬ W.f 5 - 1 = 0 by omega), Int.add_zero] at hq
        exact last _ dz _ _ f5 s4 n5 m5 rfl hq
      · have e : wPass2 ru (wPass1 ru W up) = wRun ru ((wPass1 ru W up).put 5 (W.f 5 - 1)) := (if_neg hk0).trans (if_pos (show W.f 5 - 1 = 0 by omega))
        rw [e, if_neg hk0, if_pos (show W.f 5 - 1 = 0 by omega)] at hq
        refine ldI 115 4 d4 ?_
        have hl1 : ((wPass1 ru W up).put 5 (W.f 5 - 1)).f 0 = ((t + 1 : Nat) : Int) := by show W.f 0 + 1 = _; rw [h0]; rfl
        have hl2 : ((wPass1 ru W up).put 5 (W.f 5 - 1)).f 1 = ((h + up.toNat : Nat) : Int) := by show W.f 1 + up = _; rw [h1]; omega
        have ip : ((wPass1 ru W up).put 5 (W.f 5 - 1)).put 4 (W.f 4) = (wPass1 ru W up).put 5 (W.f 5 - 1) := put_id _ 4 _ rfl
        refine k_settleNotice (t + 1) (h + up.toNat) (W.f 4) m5 (hR.fr (f5 1 (by decide) (by decide))) (hL.fr (f5 16 (by decide) (by decide)) (f5 17 (by decide) (by decide)) (f5 18 (by decide) (by decide))) hl1 hl2 (by push_cast; omega) (by omega) (by omega) (t2 _ _) (fun τ r1 r2 r3 => ?_)
        rw [ip] at r3
        exact last τ (dz + wRunC ru ((wPass1 ru W up).put 5 (W.f 5 - 1))) _ _ (fun c h1 h2 => (r1 c h1).trans (f5 c h1 h2)) (r2.trans s4) (by rw [r1 63 (by decide)]; exact n5) r3 (by rw [ip, jadd]) hq
  have a2 : σ.1 2 2 = jI (W.f 2) := hK.1 2 (by omega)
  refine vX3_passYear [(85, [0, 2, 4])] 80 ?_
  refine ldI 115 0 (show σ.1 2 0 = jI t by rw [hK.1 0 (by omega), ← h0]; rfl) ?_
  refine ldI 115 2 a2 ?_
  refine k_interestOf (t + 1) (W.f 2) hr hL (by omega) (by push_cast; omega) bc ?_ (by first | rfl | assumption | (simp only [jlit, jneg, jadd, jsub, jmul]; done) | (simp only [jlit, jneg, jadd, jsub, jmul]; congr 1 <;> omega) | (congr 1 <;> omega))
  refine ldI 115 2 a2 ?_
  refine k_dueAt (t + 1) (W.f 2) hr hL (by omega) (by push_cast; omega) bc ?_ (by first | rfl | assumption | (simp only [jlit, jneg, jadd, jsub, jmul]; done) | (simp only [jlit, jneg, jadd, jsub, jmul]; congr 1 <;> omega) | (congr 1 <;> omega))
  rw [← hiz, ← hdz]
  rw [show jI (t : Int) + 1 = jI ((t : Int) + 1) by first | rfl | assumption | (simp only [jlit, jneg, jadd, jsub, jmul]; done) | (simp only [jlit, jneg, jadd, jsub, jmul]; congr 1 <;> omega) | (congr 1 <;> omega)]
  subst e0
  refine stI 115 0 ?_
  refine ldI 115 1 g1 ?_
  refine stI 115 1 ?_
  subst e2
  refine ldI 115 7 g7 ?_
  refine stI 115 7 ?_
  refine ldI 115 6 g6 ?_
  refine stI 115 6 ?_
  subst e4
  exact at85
end KV
