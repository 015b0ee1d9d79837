-- does: an act on a row
def Wk.putA (W : Wk) (j : Nat) (z : Int) : Wk := (W.1, (fun i => if i = j then z else W.2.1 i), W.2.2)
def Wk.putR (W : Wk) (t h : Nat) (z : Int) : Wk := (W.1, W.2.1, (fun i j => if i = t ∧ j = h then z else W.2.2.1 i j), W.2.2.2)
def wDeed (ru : Nat → Int) (W : Wk) (dd : Int) : Int × Int × Int × Wk := if W.f 4 ≠ 0 ∨ dd = 0 then (2, 0, 0, W) else (-1, dd, dd + 1, wGive ru W dd)
/-- why not (-1: done), what came, what the log tells, the row behind -/
def wDone (ru : Nat → Int) (W : Wk) (k a b c : Int) : Int × Int × Int × Wk :=
  if k = 0 ∨ k = 1 then (-1, wPassC ru W, W.f 0 + 1, wPass ru W (1 - k))
  else if k = 2 ∨ k = 3 then (-1, wGiveC ru W (k - 1), W.f 0, wGive ru W (k - 1))
  else if k = 4 then (-1, W.f 5, W.f 0, (W.put 4 0).put 5 0)
  else if k = 5 then (-1, W.am a.toNat, a, W.putA a.toNat b)
  else if k = 6 then (-1, W.ra a.toNat b.toNat, a, W.putR a.toNat b.toNat c)
  else if k = 7 then wDeed ru W (wBest ru W W.t W.h)
  else if k = 8 then (if wN ru W = 0 then 2 else -1, wN ru W, wN ru W, wAdopt ru W)
  else wDeed ru W (wPol ru W W.t W.h)
def wOut (ru : Nat → Int) (W : Wk) (k a b c : Int) : Int × Int × Int × Wk := if wWhy ru W k a b c ≠ -1 then (wWhy ru W k a b c, 0, 0, W) else wDone ru W k a b c
theorem wWhy_in (ru : Nat → Int) (W : Wk) (k a b c : Int) : -1 ≤ wWhy ru W k a b c ∧ wWhy ru W k a b c ≤ 3 := by
  unfold wWhy
  repeat' split
  all_goals omega
theorem Mr.putA {σ : Mm} {ru : Nat → Int} {w : Nat} {W : Wk} (h : Mr σ ru w W) (j : Nat) (z : Int) {v : Int32} (hj : j < 13) (hv : v = jI z) : Mr (uI σ w (12 + j) v) ru w (W.putA j z) := by
  subst hv
  refine ⟨fun i hi => by rw [uI_ne (Or.inr (by omega))]; exact h.1 i hi, fun i hi => ?_, fun t i q1 q2 => by rw [uI_ne (Or.inr (by omega))]; exact h.2.2.1 t i q1 q2, fun t i q1 q2 => by rw [uI_ne (Or.inr (by omega))]; exact h.2.2.2 t i q1 q2⟩
  show _ = jI (if i = j then z else W.am i)
  by_cases e : i = j
  · rw [if_pos e, e, uI_at]
  · rw [if_neg e, uI_ne (Or.inr (by omega))]
    exact h.2.1 i hi
theorem Mr.putR {σ : Mm} {ru : Nat → Int} {w : Nat} {W : Wk} (h : Mr σ ru w W) (t0 h0 : Nat) (z : Int) {v : Int32} (hr : RB ru) (ht : (t0 : Int) < ru 1) (hh : h0 ≤ t0) (hz : 0 ≤ z ∧ z ≤ 999) (hv : v = jI z) : Mr (uI σ w (25 + (12 * t0 + h0)) v) ru w (W.putR t0 h0 z) := by
  have h12 : ru 1 ≤ 12 := by unfold RB at hr; omega
  subst hv
  refine ⟨fun i hi => by rw [uI_ne (Or.inr (by omega))]; exact h.1 i hi, fun i hi => by rw [uI_ne (Or.inr (by omega))]; exact h.2.1 i hi, fun t i q1 q2 => ?_, fun t i q1 q2 => by rw [uI_ne (Or.inr (by omega))]; exact h.2.2.2 t i q1 q2⟩
  by_cases e : t = t0 ∧ i = h0
  · obtain ⟨rfl, rfl⟩ := e
    refine ⟨z, uI_at _ _ _ _, Or.inr hz, ?_⟩
    show (if t = t ∧ i = i then z else W.ra t i) = _
    rw [if_pos ⟨rfl, rfl⟩]
    unfold zra
    rw [if_neg (by omega), Int.add_zero, bnd_id hz.1 hz.2]
  · rw [uI_ne (Or.inr (by omega))]
    obtain ⟨tr, g1, g2, g3⟩ := h.2.2.1 t i q1 q2
    refine ⟨tr, g1, g2, ?_⟩
    show (if t = t0 ∧ i = h0 then z else W.ra t i) = _
    rw [if_neg e]
    exact g3
section MF
variable {l : Launch} {G : GT} {d : Nat} {σ : Mm} {Q : Po} {ru : Nat → Int} {w : Nat} {W : Wk}
theorem c_does {x y z u : Int32} (k a b c : Int) (hw : Wr w) (hI : σ.1 98 17 = 1) (hE : ME σ ru) (hM : Mr σ ru w W) (hs : σ.1 98 27 = 0) (hB : WB ru W) (hk : 0 ≤ k ∧ k ≤ 9) (ra : R31 a) (rb : R31 b) (rc : R31 c)
    (hq : ∀ τ, FD9 w σ τ → Mr τ ru w (wOut ru W k a b c).2.2.2 → ((wOut ru W k a b c).1 = -1 → τ.1 98 33 = jI (wOut ru W k a b c).2.1 ∧ τ.1 98 34 = jI (wOut ru W k a b c).2.2.1) → Q (some (.int (jI (wOut ru W k a b c).1))) τ)
    (ex : x = jI k := by first | rfl | assumption | (simp only [jlit, jneg, jadd, jsub, jmul]; done) | (simp only [jlit, jneg, jadd, jsub, jmul]; congr 1 <;> omega) | (congr 1 <;> omega)) (ey : y = jI a := by first | rfl | assumption | (simp only [jlit, jneg, jadd, jsub, jmul]; done) | (simp only [jlit, jneg, jadd, jsub, jmul]; congr 1 <;> omega) | (congr 1 <;> omega)) (ez : z = jI b := by first | rfl | assumption | (simp only [jlit, jneg, jadd, jsub, jmul]; done) | (simp only [jlit, jneg, jadd, jsub, jmul]; congr 1 <;> omega) | (congr 1 <;> omega)) (eu : u = jI c := by first | rfl | assumption | (simp only [jlit, jneg, jadd, jsub, jmul]; done) | (simp only [jlit, jneg, jadd, jsub, jmul]; congr 1 <;> omega) | (congr 1 <;> omega)) : MW l G (d + 11) mX12_does [.ref 98, .ref w, .int x, .int y, .int z, .int u] σ Q := by
  have hr := hE.1
  have hr' := hr
  unfold RB at hr'
  have hl := hw.len
  obtain ⟨n98, n101, n112, n113, n114⟩ := hw.ne
  have hB' := hB
  obtain ⟨b1, bc, b3, b4, b6, b7, b8, bam, bra, bde⟩ := hB'
  have hid : uI σ 98 27 0 = σ := uI_id hs
  have hM0 : Mr (uI σ 98 27 0) ru w W := by rw [hid]; exact hM
  have hE0 : ME (uI σ 98 27 0) ru := by rw [hid]; exact hE
  have hs0 : (uI σ 98 27 0).1 98 27 = 0 := by rw [hid]; exact hs
  have hI0 : (uI σ 98 27 0).1 98 17 = 1 := by rw [hid]; exact hI
  have hwy := wWhy_in ru W k a b c
  have xk : x.toInt = k := by rw [ex]; exact jI_T (by omega)
  have ht : ((W.t : Nat) : Int) = W.f 0 := Int.toNat_of_nonneg (by omega)
  have hh : ((W.h : Nat) : Int) = W.f 1 := Int.toNat_of_nonneg (by omega)
  have hr3 : ((W.r : Nat) : Int) = W.f 3 := Int.toNat_of_nonneg b3.1
  -- behind the stops
  have at54 : wWhy ru W k a b c = -1 → ∀ ρ : Mm, FD9 w σ ρ → Mr ρ ru w W → LY ρ ru W.am → ρ.1 98 34 = jI (if k = 5 ∨ k = 6 then a else W.f 0) → Wp l G (d + 11) mX12_does 54 [(0, .ref 98), (1, .ref w), (2, .int x), (3, .int y), (4, .int z), (5, .int u)] [] ρ Q := by
    intro hy ρ f1 m1 L1 n1
    have hq' : ∀ τ, FD9 w σ τ → Mr τ ru w (wDone ru W k a b c).2.2.2 → ((wDone ru W k a b c).1 = -1 → τ.1 98 33 = jI (wDone ru W k a b c).2.1 ∧ τ.1 98 34 = jI (wDone ru W k a b c).2.2.1) → Q (some (.int (jI (wDone ru W k a b c).1))) τ := by
      have e : wOut ru W k a b c = wDone ru W k a b c := if_neg (by omega)
      rw [e] at hq
      exact hq
    have h6 : W.f 6 = 0 := by
      rcases b6 with q | q
      · exact q
      · unfold wWhy at hy; rw [if_pos q] at hy; omega
    have hT := b7 h6
    have hE1 : ME ρ ru := hE.fr (f1.1 101 (by decide) (Ne.symm n101))
    have hs1 : ρ.1 98 27 = 0 := (f1.2.2.1 27 (by decide) (by decide)).trans hs
    have pass : (k = 0 ∨ k = 1) → ∀ τ, Fz w ρ τ → τ.1 98 33 = jI (wPassC ru W) → Mr τ ru w (wPass ru W (1 - k)) → ∀ v, τ.1 w 0 = v → Q (some (.int (jI (-1)))) (uI τ 98 34 v) := by
      intro hk1 τ g1 g2 g3 v hv
      unfold wDone at hq'
      rw [if_pos hk1] at hq'
      refine hq' _ ((f1.tr g1.d).put n98 (Or.inr rfl)) (g3.fr (fun j _ => by rw [uI_n n98]) hr) (fun _ => ⟨by rw [uI_ne (Or.inr (by decide))]; exact g2, ?_⟩)
      rw [uI_at, ← hv, g3.1 0 (by omega)]
      congr 1
      unfold wPass wPass2 wRun
      repeat' split
      all_goals rfl
    have give : (k = 2 ∨ k = 3) → ∀ τ, Fz w ρ τ → τ.1 98 33 = jI (wGiveC ru W (k - 1)) → Mr τ ru w (wGive ru W (k - 1)) → Q (some (.int (jI (-1)))) τ := by
      intro hk1 τ g1 g2 g3
      unfold wDone at hq'
      rw [if_neg (by omega), if_pos hk1] at hq'
      refine hq' τ (f1.tr g1.d) g3 (fun _ => ⟨g2, ?_⟩)
      rw [g1.2.2.1 34 (by decide), n1, if_neg (by omega)]
    have deed : ∀ dd : Int, wDone ru W k a b c = wDeed ru W dd → ∀ ρ2 : Mm, FD9 w σ ρ2 → Mr ρ2 ru w W → ((W.f 4 ≠ 0 ∨ dd = 0) → Q (some (.int (jI 2))) ρ2) ∧ (¬ (W.f 4 ≠ 0 ∨ dd = 0) → ∀ τ, FD9 w ρ2 τ → τ.1 98 33 = jI dd → τ.1 98 34 = jI (dd + 1) → Mr τ ru w (wGive ru W dd) → Q (some (.int (jI (-1)))) τ) := by
      intro dd e ρ2 f2 m2
      rw [e] at hq'
      unfold wDeed at hq'
      refine ⟨fun q => ?_, fun q τ g1 g2 g3 g4 => ?_⟩
      · rw [if_pos q] at hq'
        exact hq' ρ2 f2 m2 (fun q2 => absurd (show (2 : Int) = -1 from q2) (by decide))
      · rw [if_neg q] at hq'
        exact hq' τ (f2.tr g1) g4 (fun _ => ⟨g2, g3⟩)
    have p1 := hq'
    have go01 : (k = 0 ∨ k = 1) → Wp l G (d + 11) mX12_does 104 [(0, .ref 98), (1, .ref w), (2, .int x), (3, .int y), (4, .int z), (5, .int u)] [] ρ Q := by
      intro hk1
      refine wX12_does [] 40 ?_
      refine c_passes W.t W.h (1 - k) hw hE1 m1 hs1 L1 ht.symm hh.symm (by omega) (by omega) (by omega) bc b4 (fun q => by have := b8 q; omega) (fun τ g1 g2 g3 => ?_) (by rw [ex, jlit, jsub])
      refine ldI (lenI w) 0 rfl ?_
      exact pass hk1 τ g1 g2 g3 _ rfl
    have go23 : (k = 2 ∨ k = 3) → Wp l G (d + 11) mX12_does 121 [(0, .ref 98), (1, .ref w), (2, .int x), (3, .int y), (4, .int z), (5, .int u)] [] ρ Q := by
      intro hk1
      refine wX12_does [] 40 ?_
      refine c_givesNotice W.t W.h (k - 1) hw hE1 m1 hs1 L1 ht.symm hh.symm (by omega) (by omega) (by omega) (fun τ g1 g2 g3 => ?_) (by rw [ex, jlit, jsub])
      exact give hk1 τ g1 g2 g3
    refine wX12_does [(104, [0, 1, 2, 3, 4, 5]), (121, [0, 1, 2, 3, 4, 5])] 80 ?_
    refine ⟨⟨fun e => ?_, fun e => ?_, fun e => ?_, fun e => ?_, fun e => ?_, fun e => ?_, fun e => ?_, fun e => ?_, fun e => ?_, trivial⟩, fun e => ?_⟩
    · exact go01 (by omega)
    · exact go01 (by omega)
    · exact go23 (by omega)
    · exact go23 (by omega)
    · have e' : k = 4 := by omega
      unfold wDone at hq'
      rw [if_neg (by omega), if_neg (by omega), if_pos e'] at hq'
      refine ldI (lenI w) 5 (m1.1 5 (by omega)) ?_
      refine stI (lenI w) 4 ?_
      refine stI (lenI w) 5 ?_
      refine hq' _ (((f1.put n98 (Or.inl rfl)).row n98).row n98) (((m1.fr (fun j _ => by rw [uI_n n98]) hr).put 4 0).put 5 0) (fun _ => ⟨?_, ?_⟩)
      · rw [uI_n (Ne.symm n98), uI_n (Ne.symm n98), uI_at]
      · rw [uI_n (Ne.symm n98), uI_n (Ne.symm n98), uI_ne (Or.inr (by decide)), n1, if_neg (by omega)]
    · have e' : k = 5 := by omega
      unfold wDone at hq'
      rw [if_neg (by omega), if_neg (by omega), if_neg (by omega), if_pos e'] at hq'
      unfold wWhy at hy
      rw [if_neg (by omega), if_neg (by omega), if_neg (by omega), if_pos e'] at hy
      have ha : W.f 0 + 1 ≤ a ∧ a ≤ ru 1 - 1 := by
        by_cases q : W.f 0 + 1 ≤ a ∧ a ≤ ru 1 - 1
        · exact q
        · rw [if_pos q] at hy; omega
      have hta : ((a.toNat : Nat) : Int) = a := Int.toNat_of_nonneg (by omega)
      refine ldI (lenI w) (12 + a.toNat) (m1.2.1 a.toNat (by omega)) ?_ (hi := by rw [ey, jlit, jadd]; congr 1; push_cast; omega)
      refine stI (lenI w) (12 + a.toNat) ?_ (hi := by rw [ey, jlit, jadd]; congr 1; push_cast; omega)
      refine hq' _ ((f1.put n98 (Or.inl rfl)).row n98) ((m1.fr (fun j _ => by rw [uI_n n98]) hr).putA a.toNat b (by omega) ez) (fun _ => ⟨?_, ?_⟩)
      · rw [uI_n (Ne.symm n98), uI_at]
      · rw [uI_n (Ne.symm n98), uI_ne (Or.inr (by decide)), n1, if_pos (by omega)]
    · have e' : k = 6 := by omega
      unfold wDone at hq'
      rw [if_neg (by omega), if_neg (by omega), if_neg (by omega), if_neg (by omega), if_pos e'] at hq'
      unfold wWhy at hy
      rw [if_neg (by omega), if_neg (by omega), if_neg (by omega), if_neg (by omega), if_pos e'] at hy
      have ha : (0 ≤ a ∧ a < ru 1 ∧ 0 ≤ b ∧ b ≤ a) ∧ (W.f 0 ≤ a ∧ W.f 1 ≤ b ∧ b - W.f 1 ≤ a - W.f 0) := by
        by_cases q : (0 ≤ a ∧ a < ru 1 ∧ 0 ≤ b ∧ b ≤ a) ∧ (W.f 0 ≤ a ∧ W.f 1 ≤ b ∧ b - W.f 1 ≤ a - W.f 0)
        · exact q
        · rw [if_pos q] at hy; omega
      rw [if_neg (by omega)] at hy
      have hc : 0 ≤ c ∧ c ≤ 999 := by
        by_cases q : 0 ≤ c ∧ c ≤ 999
        · exact q
        · rw [if_pos q] at hy; omega
      have hta : ((a.toNat : Nat) : Int) = a := Int.toNat_of_nonneg (by omega)
      have htb : ((b.toNat : Nat) : Int) = b := Int.toNat_of_nonneg (by omega)
      refine c_rateOf a.toNat b.toNat (m1.PM hE1 hw hs1) (by omega) (by omega) ?_ (by rw [ey, hta]) (by rw [ez, htb])
      refine c_node a b ?_ ey ez
      refine stI (lenI w) (25 + (12 * a.toNat + b.toNat)) ?_ (hi := by rw [jlit, jadd]; congr 1; push_cast; omega)
      refine hq' _ ((f1.put n98 (Or.inl rfl)).row n98) ((m1.fr (fun j _ => by rw [uI_n n98]) hr).putR a.toNat b.toNat c hr (by omega) (by omega) hc eu) (fun _ => ⟨?_, ?_⟩)
      · rw [uI_n (Ne.symm n98), uI_at]
      · rw [uI_n (Ne.symm n98), uI_ne (Or.inr (by decide)), n1, if_pos (by omega)]
    · have e' : k = 7 := by omega
      have ew : wDone ru W k a b c = wDeed ru W (wBest ru W W.t W.h) := by
        unfold wDone
        rw [if_neg (by omega), if_neg (by omega), if_neg (by omega), if_neg (by omega), if_neg (by omega), if_pos e']
      refine ldI (lenI w) 4 (m1.1 4 (by omega)) ?_
      refine breq (W.f 4) 0 (fun z4 => ?_) (fun z4 => ?_)
      · refine c_bestHere W.t W.h hw hE1 m1 hs1 hB ht.symm hh.symm (by omega) (by omega) (fun τ g1 g2 g3 => ?_)
        have f2 : FD9 w ρ τ := ⟨fun a q1 q2 => g1 a (fun q => q1 (by simp at q ⊢; omega)), g2, fun j _ _ => by rw [g1 98 (by decide)], fun j _ => by rw [g1 w (by simp; omega)]⟩
        have m2 : Mr τ ru w W := m1.fr (fun j _ => by rw [g1 w (by simp; omega)]) hr
        obtain ⟨d1, d2⟩ := deed _ ew τ (f1.tr f2) m2
        exact c_doesBest W.t W.h _ hw (hE1.fr (g1 101 (by decide))) m2 (by rw [g1 98 (by decide)]; exact hs1) g3 hB ht.symm hh.symm (by omega) (by omega) (wBest_in _ _ _ _) d1 d2
      · exact (deed _ ew ρ f1 m1).1 (Or.inl z4)
    · have e' : k = 8 := by omega
      unfold wDone at hq'
      rw [if_neg (by omega), if_neg (by omega), if_neg (by omega), if_neg (by omega), if_neg (by omega), if_neg (by omega), if_pos e'] at hq'
      refine c_adopts W.t W.h hw hE1 m1 hs1 hB ht.symm hh.symm (by omega) (by omega) (fun τ g1 g2 g3 g4 => ?_)
      exact hq' τ (f1.tr g1) g4 (fun _ => ⟨g2, g3⟩)
    · have e' : k = 9 := by omega
      have ew : wDone ru W k a b c = wDeed ru W (wPol ru W W.t W.h) := by
        unfold wDone
        rw [if_neg (by omega), if_neg (by omega), if_neg (by omega), if_neg (by omega), if_neg (by omega), if_neg (by omega), if_neg (by omega)]
      obtain ⟨d1, d2⟩ := deed _ ew ρ f1 m1
      have hpi := zpd_in (ru := ru) (de := W.de) (r := W.r) (t := W.t) (h := W.h) (bde _ _)
      refine ldI (lenI w) 3 (m1.1 3 (by omega)) ?_
      refine ldI (lenI w) 0 (m1.1 0 (by omega)) ?_
      refine ldI (lenI w) 1 (m1.1 1 (by omega)) ?_
      refine c_policyDeed W.de W.r W.t W.h (m1.PM hE1 hw hs1) (fun t h q1 q2 => ⟨m1.2.2.2 t h q1 q2, bde t h⟩) (by omega) (by omega) (by omega) ?_ (by rw [hr3]) (by rw [ht]) (by rw [hh])
      exact c_doesBest W.t W.h _ hw hE1 m1 hs1 L1 hB ht.symm hh.symm (by omega) (by omega) (by unfold wPol; omega) d1 d2
  refine vX12_does [(54, [0, 1, 2, 3, 4, 5])] 80 ?_
  refine c_stops k a b c hw hI0 hE0 hM0 hs0 hB hk ra rb rc ?_ ex ey ez eu
  refine breq (wWhy ru W k a b c) (-1) (fun hy => ?_) (fun hy => ?_)
  · refine c_laysYears hr hE0.2 hl (by simp; omega) (fun j => (bam j).1) (fun j hj => ⟨hM0.2.1 j hj, (bam j).2⟩) (fun τ g1 g2 => ?_)
    rw [hid] at g1
    have ew : τ.1 w = σ.1 w := g1.1 w (by simp; omega)
    have f2 : ∀ v, FD9 w σ (uI τ 98 34 v) := fun v => FD9.put ⟨fun a q1 q2 => g1.1 a (fun q => q1 (by simp at q ⊢; omega)), fun a q1 => g1.2 a (fun q => q1 (by simp at q ⊢; omega)), fun j _ _ => by rw [g1.1 98 (by decide)], fun j _ => by rw [ew]⟩ n98 (Or.inr rfl)
    have m2 : ∀ v, Mr (uI τ 98 34 v) ru w W := fun v => hM.fr (fun j _ => by rw [uI_n n98, ew]) hr
    have L2 : ∀ v, LY (uI τ 98 34 v) ru W.am := fun v => g2.fr (uI_n (by decide)) (uI_n (by decide)) (uI_n (by decide))
    have w0 : τ.1 w 0 = jI (W.f 0) := by rw [ew]; exact hM.1 0 (by omega)
    refine breq k 5 (fun e5 => ?_) (fun e5 => ?_) ex
    · exact at54 hy _ (f2 y) (m2 y) (L2 y) (by rw [uI_at, if_pos (by omega)]; exact ey)
    · refine breq k 6 (fun e6 => ?_) (fun e6 => ?_) ex
      · exact at54 hy _ (f2 y) (m2 y) (L2 y) (by rw [uI_at, if_pos (by omega)]; exact ey)
      · refine ldI (lenI w) 0 w0 ?_
        exact at54 hy _ (f2 _) (m2 _) (L2 _) (by rw [uI_at, if_neg (by omega)])
  · have e : wOut ru W k a b c = (wWhy ru W k a b c, 0, 0, W) := if_pos hy
    rw [e] at hq
    rw [← hid] at hq
    exact hq _ (by rw [hid]; exact FD9.rf) hM0 (fun q => absurd q hy)
end MF
