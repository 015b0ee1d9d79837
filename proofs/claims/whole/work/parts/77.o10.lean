-- takeDeeds of the class
theorem rowN_ext {g : Nat → Nat} {H : Nat} : ∀ n, H ≤ n → (∀ h, H ≤ h → h < n → g h = 0) → rowN g n = rowN g H
  | 0, hn, _ => by rw [show H = 0 by omega]
  | n + 1, hn, h0 => by
    by_cases q : H = n + 1
    · rw [q]
    · show rowN g n + g n = _
      rw [rowN_ext n (by omega) (fun h q1 q2 => h0 h q1 (by omega)), h0 n (by omega) (by omega), Nat.add_zero]
section KTd
variable {l : Launch} {G : GT} {d : Nat} {σ : Mm} {Q : Po} {ru : Nat → Int} {W : Wk}
theorem k_takeDeeds (t0 h0 : Nat) (hK : Kr σ 2 W) (hR : RC σ ru) (hB : WB ru W) (e0 : W.f 0 = t0) (e1 : W.f 1 = h0) (ht : (t0 : Int) < ru 1) (hd : ∀ t h : Nat, (t : Int) < ru 1 → h ≤ t → σ.1 34 (nd t h) = jI (wBest ru W t h))
    (hq : ∀ τ : Mm, (∀ c, c ≠ 2 → c ≠ 63 → τ.1 c = σ.1 c) → τ.2 = σ.2 → τ.1 63 3 = jI (wN ru W) → Kr τ 2 (wAdopt ru W) → Q (some (.int (jI (if wN ru W = 0 then -3 else wN ru W)))) τ) : MW l G (d + 1) mX3_takeDeeds [.ref 63, .ref 31] σ Q := by
  have hr := hR.1
  have hr' := hr
  unfold RB at hr'
  obtain ⟨b1, bc, b3, b4, b6, b7, b8, t1, t2, t3⟩ := hB
  have hle : ∀ T, T ≤ 12 → allN (wDif ru W) T ≤ 200 := fun T hT => by have := allN_le (wDif_le ru W) T hT; omega
  let I : Mm → Nat → Nat → Prop := fun τ T H => (∀ c, c ≠ 2 → τ.1 c = σ.1 c) ∧ τ.2 = σ.2 ∧ Kr τ 2 (W.deeds (wAd ru W T H))
  have step : ∀ (T H n : Nat) (τ : Mm) (w4 w5 w6 : Int32), (T : Int) < ru 1 → t0 ≤ T → h0 ≤ H → H ≤ h0 + (T - t0) → I τ T H → w4 = jI n → w5 = jI T → w6 = jI H → (∀ τ' v u, I τ' T (H + 1) → v = jI ((n + wDif ru W T H : Nat) : Int) → u = jI ((H + 1 : Nat) : Int) → Wp l G (d + 1) mX3_takeDeeds 34 [(0, .ref 63), (1, .ref 31), (2, .int (jI t0)), (3, .int (jI h0)), (4, .int v), (5, .int w5), (6, .int u)] [] τ' Q) → Wp l G (d + 1) mX3_takeDeeds 34 [(0, .ref 63), (1, .ref 31), (2, .int (jI t0)), (3, .int (jI h0)), (4, .int w4), (5, .int w5), (6, .int w6)] [] τ Q := by
    intro T H n τ w4 w5 w6 hT hT0 hH0 hH hI e4 e5 e6 hgo
    subst e5; subst e6
    obtain ⟨i1, i2, i3⟩ := hI
    have hc : wC ru W T H := ⟨by omega, hT, by omega, by omega, by omega⟩
    have hn := nd_lt2 (t := T) (h := H) (by omega) (by omega)
    have hdv : τ.1 34 (nd T H) = jI (wBest ru W T H) := by rw [i1 34 (by decide)]; exact hd T H hT (by omega)
    have hwd : (W.deeds (wAd ru W T H)).de T H = W.de T H := by
      show wAd ru W T H T H = _
      unfold wAd
      rw [if_neg (fun z => by omega)]
    have bb := wBest_in ru W T H
    have bd := t3 T H
    have hde : (τ.1 2 (103 + T) >>> ((2 * jI H) &&& 31)) &&& 3 = jI (W.de T H) := by
      have := (i3.2.2.2.2.DC hr T H hT (by omega)).1
      rw [this, i3.2.2.2.1, hwd]
    have ext : ∀ z, (W.de T H = wBest ru W T H ∨ z = wBest ru W T H) → (fun i j => if i = T ∧ j = H then wBest ru W T H else wAd ru W T H i j) = wAd ru W T (H + 1) := by
      intro z _
      funext i j
      unfold wAd
      by_cases q : i = T ∧ j = H
      · obtain ⟨rfl, rfl⟩ := q
        rw [if_pos ⟨rfl, rfl⟩, if_pos ⟨hc, Or.inr ⟨rfl, by omega⟩⟩]
      · rw [if_neg q]
        by_cases q2 : wC ru W i j ∧ (i < T ∨ i = T ∧ j < H)
        · rw [if_pos q2, if_pos ⟨q2.1, by omega⟩]
        · rw [if_neg q2, if_neg (fun z => q2 ⟨z.1, by omega⟩)]
    have ext := ext _ (Or.inr rfl)
    refine wX3_takeDeeds [(34, [0, 1, 2, 3, 4, 5, 6])] 100 ?_
    refine brlt ((h0 : Int) + T - t0) H (fun q => by omega) (fun _ => ?_) (by rw [jadd, jsub])
    refine k_nodeOf T H ?_
    refine ldI 91 (nd T H) hdv ?_
    refine k_deedOf T H (by decide) (by omega) hde ?_
    refine breq (wBest ru W T H) (W.de T H) (fun z => ?_) (fun z => ?_)
    · refine hgo τ _ _ ⟨i1, i2, ?_⟩ (by unfold wDif; rw [if_neg (fun q => q.2 z.symm)]; exact e4) (by first | rfl | assumption | (simp only [jlit, jneg, jadd, jsub, jmul]; done) | (simp only [jlit, jneg, jadd, jsub, jmul]; congr 1 <;> omega) | (congr 1 <;> omega))
      rw [← ext]
      have e : (fun i j => if i = T ∧ j = H then wBest ru W T H else wAd ru W T H i j) = wAd ru W T H := by
        funext i j
        by_cases q : i = T ∧ j = H
        · obtain ⟨rfl, rfl⟩ := q
          rw [if_pos ⟨rfl, rfl⟩, z]
          exact hwd.symm
        · rw [if_neg q]
      rw [e]
      exact i3
    · refine k_setDeed T H (wBest ru W T H) (by decide) i3 (by omega) (by omega) bb (fun ρ g1 g2 g3 => ?_)
      refine hgo ρ _ _ ⟨fun c hc => (g1 c hc).trans (i1 c hc), g2.trans i2, ?_⟩ (by unfold wDif; rw [if_pos ⟨hc, fun q => z q.symm⟩, e4]; first | rfl | assumption | (simp only [jlit, jneg, jadd, jsub, jmul]; done) | (simp only [jlit, jneg, jadd, jsub, jmul]; congr 1 <;> omega) | (congr 1 <;> omega)) (by first | rfl | assumption | (simp only [jlit, jneg, jadd, jsub, jmul]; done) | (simp only [jlit, jneg, jadd, jsub, jmul]; congr 1 <;> omega) | (congr 1 <;> omega))
      rw [← ext]
      exact g3
  have rowT : ∀ (m T H n : Nat) (τ : Mm) (w4 w5 w6 : Int32), H + m = h0 + (T - t0) + 1 → h0 ≤ H → (T : Int) < ru 1 → t0 ≤ T → I τ T H → n = allN (wDif ru W) T + rowN (wDif ru W T) H → w4 = jI n → w5 = jI T → w6 = jI H → (∀ τ' v u, I τ' (T + 1) 0 → v = jI (allN (wDif ru W) (T + 1) : Int) → u = jI ((T + 1 : Nat) : Int) → Wp l G (d + 1) mX3_takeDeeds 20 [(0, .ref 63), (1, .ref 31), (2, .int (jI t0)), (3, .int (jI h0)), (4, .int v), (5, .int u)] [] τ' Q) → Wp l G (d + 1) mX3_takeDeeds 34 [(0, .ref 63), (1, .ref 31), (2, .int (jI t0)), (3, .int (jI h0)), (4, .int w4), (5, .int w5), (6, .int w6)] [] τ Q := by
    intro m
    induction m with
    | zero =>
      intro T H n τ w4 w5 w6 hm hH hT hT0 hI hn e4 e5 e6 hgo
      subst e5; subst e6
      refine wX3_takeDeeds [(20, [0, 1, 2, 3, 4, 5])] 60 ?_
      refine brlt ((h0 : Int) + T - t0) H (fun _ => ?_) (fun q => by omega) (by rw [jadd, jsub])
      have er : rowN (wDif ru W T) (T + 1) = rowN (wDif ru W T) H := rowN_ext (T + 1) (by omega) (fun h q1 q2 => by
        unfold wDif
        rw [if_neg (fun z => by have := z.1.2.2.2.1; omega)])
      refine hgo τ _ _ ⟨hI.1, hI.2.1, ?_⟩ (by rw [e4, hn, ← er]; rfl) (by first | rfl | assumption | (simp only [jlit, jneg, jadd, jsub, jmul]; done) | (simp only [jlit, jneg, jadd, jsub, jmul]; congr 1 <;> omega) | (congr 1 <;> omega))
      have e : wAd ru W (T + 1) 0 = wAd ru W T H := by
        funext t h
        unfold wAd
        by_cases hc : wC ru W t h
        · have q := hc.2.2.2.1
          by_cases z : t < T + 1
          · rw [if_pos ⟨hc, Or.inl z⟩, if_pos ⟨hc, by omega⟩]
          · rw [if_neg (fun w => by omega), if_neg (fun w => by omega)]
        · rw [if_neg (fun w => hc w.1), if_neg (fun w => hc w.1)]
      rw [e]
      exact hI.2.2
    | succ m ih =>
      intro T H n τ w4 w5 w6 hm hH hT hT0 hI hn e4 e5 e6 hgo
      exact step T H n τ w4 w5 w6 hT hT0 hH (by omega) hI e4 e5 e6 (fun τ' v u hI' hv hu => ih T (H + 1) (n + wDif ru W T H) τ' v w5 u (by omega) (by omega) hT hT0 hI' (by rw [hn]; show _ = _ + (rowN (wDif ru W T) H + wDif ru W T H); omega) hv e5 hu hgo)
  have outer : ∀ (m T : Nat) (τ : Mm) (w4 w5 : Int32), (T : Int) + m = ru 1 → t0 ≤ T → I τ T 0 → w4 = jI (allN (wDif ru W) T : Int) → w5 = jI T → Wp l G (d + 1) mX3_takeDeeds 20 [(0, .ref 63), (1, .ref 31), (2, .int (jI t0)), (3, .int (jI h0)), (4, .int w4), (5, .int w5)] [] τ Q := by
    intro m
    induction m with
    | zero =>
      intro T τ w4 w5 hm hT0 hI e4 e5
      have hR1 : RC τ ru := hR.fr (hI.1 1 (by decide))
      have eN : allN (wDif ru W) T = wN ru W := by unfold wN; congr 1; omega
      have hb := hle T (by omega)
      rw [eN] at e4 hb
      have hM9 : Kr τ 2 (wAdopt ru W) := by
        have e : wAd ru W T 0 = fun t h => if wC ru W t h then wBest ru W t h else W.de t h := by
          funext t h
          unfold wAd
          by_cases hc : wC ru W t h
          · rw [if_pos ⟨hc, by have := hc.2.1; omega⟩, if_pos hc]
          · rw [if_neg (fun z => hc z.1), if_neg hc]
        have := hI.2.2
        rw [e] at this
        exact this
      have fin := hq (uI τ 63 3 w4) (fun c q1 q2 => by rw [uI_n q2]; exact hI.1 c q1) hI.2.1 (by rw [uI_at]; exact e4) (hM9.fr (uI_n (by decide)))
      refine wX3_takeDeeds [] 60 ?_
      refine ldI 14 1 (hR1.2 1 (by omega)) ?_
      refine brle (ru 1) T (fun _ => ?_) (fun q => by omega) rfl e5
      refine breq (wN ru W) 0 (fun z => ?_) (fun z => ?_) e4
      · rw [if_pos (by omega)] at fin
        exact fin
      · rw [if_neg (by omega), ← e4] at fin
        exact fin
    | succ m ih =>
      intro T τ w4 w5 hm hT0 hI e4 e5
      have hR1 : RC τ ru := hR.fr (hI.1 1 (by decide))
      have hz : rowN (wDif ru W T) h0 = 0 := rowN_zero h0 (fun h hh => by unfold wDif; rw [if_neg (fun z => by have := z.1.2.2.1; omega)])
      have e : wAd ru W T h0 = wAd ru W T 0 := by
        funext t h
        unfold wAd
        by_cases hc : wC ru W t h
        · have q := hc.2.2.1
          by_cases z : t < T
          · rw [if_pos ⟨hc, Or.inl z⟩, if_pos ⟨hc, Or.inl z⟩]
          · rw [if_neg (fun w => by omega), if_neg (fun w => by omega)]
        · rw [if_neg (fun w => hc w.1), if_neg (fun w => hc w.1)]
      refine wX3_takeDeeds [(34, [0, 1, 2, 3, 4, 5, 6])] 60 ?_
      refine ldI 14 1 (hR1.2 1 (by omega)) ?_
      refine brle (ru 1) T (fun q => by omega) (fun _ => ?_) rfl e5
      exact rowT (T - t0 + 1) T h0 (allN (wDif ru W) T) τ w4 w5 _ (by omega) (Nat.le_refl _) (by omega) hT0 ⟨hI.1, hI.2.1, by rw [e]; exact hI.2.2⟩ (by rw [hz]; rfl) e4 e5 rfl (fun τ' v u hI' hv hu => ih (T + 1) τ' v u (by push_cast at hm ⊢; omega) (by omega) hI' hv hu)
  have ez : wAd ru W t0 0 = W.de := by
    funext t h
    unfold wAd
    rw [if_neg (fun z => by have := z.1.1; omega)]
  refine vX3_takeDeeds [(20, [0, 1, 2, 3, 4, 5])] 60 ?_
  refine ldI 115 0 (show σ.1 2 0 = jI t0 by rw [hK.1 0 (by omega), ← e0]; rfl) ?_
  refine ldI 115 1 (show σ.1 2 1 = jI h0 by rw [hK.1 1 (by omega), ← e1]; rfl) ?_
  refine outer ((ru 1).toNat - t0) t0 σ _ _ (by omega) (Nat.le_refl _) ⟨fun _ _ => rfl, rfl, by rw [ez]; exact hK⟩ ?_ rfl
  rw [allN_zero t0 (fun t h q1 q2 => by unfold wDif; rw [if_neg (fun z => by have := z.1.1; omega)])]
  rfl
end KTd
