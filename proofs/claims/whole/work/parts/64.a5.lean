-- adopts
section ME2
variable {l : Launch} {G : GT} {d : Nat} {σ : Mm} {Q : Po} {ru : Nat → Int} {w : Nat} {W : Wk}
/-- deeds as they are when all nodes ahead of (T, H) are done -/
def wAd (ru : Nat → Int) (W : Wk) (T H t h : Nat) : Int := if wC ru W t h ∧ (t < T ∨ t = T ∧ h < H) then wBest ru W t h else W.de t h
theorem c_adopts (t0 h0 : Nat) (hw : Wr w) (hE : ME σ ru) (hM : Mr σ ru w W) (hs : σ.1 98 27 = 0) (hB : WB ru W) (e0 : W.f 0 = t0) (e1 : W.f 1 = h0) (ht : (t0 : Int) < ru 1) (hh : h0 ≤ t0)
    (hq : ∀ τ, FD9 w σ τ → τ.1 98 33 = jI (wN ru W) → τ.1 98 34 = jI (wN ru W) → Mr τ ru w (wAdopt ru W) → Q (some (.int (jI (if wN ru W = 0 then 2 else -1)))) τ) : MW l G (d + 10) mX12_adopts [.ref 98, .ref w] σ Q := by
  have hl := hw.len
  have hr := hE.1
  have hr' := hr
  unfold RB at hr'
  obtain ⟨n98, n101, n112, n113, n114⟩ := hw.ne
  have hB' := hB
  obtain ⟨b1, bc, b3, b4, b6, b7, b8, bam, bra, bde⟩ := hB'
  have hr3 : ((W.r : Nat) : Int) = W.f 3 := Int.toNat_of_nonneg b3.1
  have hY : ((ru 1).toNat : Int) = ru 1 := Int.toNat_of_nonneg (by omega)
  have hM0 : Mr (uI σ 98 27 0) ru w W := by rw [uI_id hs]; exact hM
  have hE0 : ME (uI σ 98 27 0) ru := by rw [uI_id hs]; exact hE
  have hs0 : (uI σ 98 27 0).1 98 27 = 0 := by rw [uI_id hs]; exact hs
  let I : Mm → Nat → Nat → Prop := fun τ T H => FD9 w σ τ ∧ Mr τ ru w (W.deeds (wAd ru W T H)) ∧ LY τ ru W.am ∧ TB τ 117 ru W.r 0 0 (zco ru W.am W.ra none W.r (W.f 2)) ∧ TN τ 117 ru W.r (zN ru W.am W.ra none W.r)
  have hle : ∀ T, T ≤ 12 → allN (wDif ru W) T ≤ 200 := fun T hT => by have := allN_le (wDif_le ru W) T hT; omega
  have step : ∀ (T H n : Nat) (τ : Mm) (w2 w3 w4 : Int32), (T : Int) < ru 1 → H ≤ T → t0 ≤ T → I τ T H → w2 = jI n → w3 = jI T → w4 = jI H → (∀ τ' v u, I τ' T (H + 1) → v = jI ((n + wDif ru W T H : Nat) : Int) → u = jI ((H + 1 : Nat) : Int) → Wp l G (d + 10) mX12_adopts 40 [(0, .ref 98), (1, .ref w), (2, .int v), (3, .int w3), (4, .int u)] [] τ' Q) → Wp l G (d + 10) mX12_adopts 40 [(0, .ref 98), (1, .ref w), (2, .int w2), (3, .int w3), (4, .int w4)] [] τ Q := by
    intro T H n τ w2 w3 w4 hT hH hT0 hI e2 e3 e4 hgo
    subst e3; subst e4
    obtain ⟨i1, i2, i3, i4, i5⟩ := hI
    have hE1 : ME τ ru := hE.fr (i1.1 101 (by decide) (Ne.symm n101))
    have hs1 : τ.1 98 27 = 0 := (i1.2.2.1 27 (by decide) (by decide)).trans hs
    have hP : PM τ w ru W.ra := i2.PM hE1 hw hs1
    have hmon : ∀ t h, ¬ (wC ru W T H ∧ W.de T H ≠ wBest ru W T H) → wAd ru W T (H + 1) t h = wAd ru W T H t h := by
      intro t h hz
      unfold wAd
      by_cases q : t = T ∧ h = H
      · obtain ⟨rfl, rfl⟩ := q
        rw [if_neg (show ¬ (wC ru W t h ∧ (t < t ∨ t = t ∧ h < h)) from fun z => by omega)]
        by_cases hc : wC ru W t h
        · rw [if_pos ⟨hc, Or.inr ⟨rfl, by omega⟩⟩]
          by_cases z : W.de t h = wBest ru W t h
          · exact z.symm
          · exact absurd ⟨hc, z⟩ hz
        · rw [if_neg (fun z => hc z.1)]
      · by_cases hc : wC ru W t h ∧ (t < T ∨ t = T ∧ h < H)
        · rw [if_pos hc, if_pos ⟨hc.1, by omega⟩]
        · rw [if_neg hc, if_neg (fun z => hc ⟨z.1, by omega⟩)]
    have same : ¬ (wC ru W T H ∧ W.de T H ≠ wBest ru W T H) → Wp l G (d + 10) mX12_adopts 40 [(0, .ref 98), (1, .ref w), (2, .int w2), (3, .int (jI T)), (4, .int (jI H + 1))] [] τ Q := by
      intro hz
      refine hgo τ _ _ ⟨i1, ?_, i3, i4, i5⟩ (by unfold wDif; rw [if_neg hz]; exact e2) (by first | rfl | assumption | (simp only [jlit, jneg, jadd, jsub, jmul]; done) | (simp only [jlit, jneg, jadd, jsub, jmul]; congr 1 <;> omega) | (congr 1 <;> omega))
      rw [show wAd ru W T (H + 1) = wAd ru W T H from funext fun t => funext fun h => hmon t h hz]
      exact i2
    have hde : τ.1 w (169 + (12 * T + H)) = jI (W.de T H) := by
      rw [i2.2.2.2 T H hT hH]
      show jI (wAd ru W T H T H) = _
      unfold wAd
      rw [if_neg (fun z => by omega)]
    have bb := wBest_in ru W T H
    have bd := bde T H
    refine wX12_adopts [(40, [0, 1, 2, 3, 4])] 80 ?_
    refine brlt T H (fun z => by omega) (fun _ => ?_)
    refine c_canCome (W := W) T H hw (i2.1 0 (by omega)) (i2.1 1 (by omega)) (by omega) (by omega) (by omega) (by omega) ?_
    refine brz inferInstance (fun z => ?_) (fun z => ?_)
    · exact same (fun q => z ⟨q.1.1, q.1.2.2.1, q.1.2.2.2.1⟩)
    · refine ldI (lenI w) 3 (i2.1 3 (by omega)) ?_
      refine ldI (lenI w) 2 (i2.1 2 (by omega)) ?_
      refine c_bestDeed W.r 0 T H (W.f 2) _ _ hP i3 (by decide) (by omega) (by omega) hT hH bc (i4.up (by omega)) i5 ?_ (by rw [hr3]; rfl) rfl rfl
      refine c_node T H ?_
      refine ldI (lenI w) (169 + (12 * T + H)) hde ?_ (hi := by first | rfl | assumption | (simp only [jlit, jneg, jadd, jsub, jmul]; done) | (simp only [jlit, jneg, jadd, jsub, jmul]; congr 1 <;> omega) | (congr 1 <;> omega))
      refine breq (W.de T H) (wBest ru W T H) (fun z2 => ?_) (fun z2 => ?_) rfl rfl
      · exact same (fun q => q.2 z2)
      · refine c_node T H ?_
        refine stI (lenI w) (169 + (12 * T + H)) ?_ (hi := by first | rfl | assumption | (simp only [jlit, jneg, jadd, jsub, jmul]; done) | (simp only [jlit, jneg, jadd, jsub, jmul]; congr 1 <;> omega) | (congr 1 <;> omega))
        have hc : wC ru W T H := ⟨z.1, hT, z.2.1, z.2.2, hH⟩
        have fr2 : ∀ a, a ≠ w → (uI τ w (169 + (12 * T + H)) (jI (wBest ru W T H))).1 a = τ.1 a := fun a ha => uI_n ha
        refine hgo _ _ _ ⟨i1.row n98, ⟨fun k hk => by rw [uI_ne (Or.inr (by omega))]; exact i2.1 k hk, fun j hj => by rw [uI_ne (Or.inr (by omega))]; exact i2.2.1 j hj, fun t h q1 q2 => by rw [uI_ne (Or.inr (by omega))]; exact i2.2.2.1 t h q1 q2, fun t h q1 q2 => ?_⟩, i3.fr (fr2 112 (Ne.symm n112)) (fr2 113 (Ne.symm n113)) (fr2 114 (Ne.symm n114)), i4, i5⟩ (by unfold wDif; rw [if_pos ⟨hc, z2⟩, e2]; first | rfl | assumption | (simp only [jlit, jneg, jadd, jsub, jmul]; done) | (simp only [jlit, jneg, jadd, jsub, jmul]; congr 1 <;> omega) | (congr 1 <;> omega)) (by first | rfl | assumption | (simp only [jlit, jneg, jadd, jsub, jmul]; done) | (simp only [jlit, jneg, jadd, jsub, jmul]; congr 1 <;> omega) | (congr 1 <;> omega))
        show _ = jI (wAd ru W T (H + 1) t h)
        by_cases q : t = T ∧ h = H
        · obtain ⟨rfl, rfl⟩ := q
          rw [uI_at]
          unfold wAd
          rw [if_pos ⟨hc, Or.inr ⟨rfl, by omega⟩⟩]
          rfl
        · rw [uI_ne (Or.inr (by omega)), i2.2.2.2 t h q1 q2]
          show jI (wAd ru W T H t h) = _
          congr 1
          unfold wAd
          by_cases hc2 : wC ru W t h ∧ (t < T ∨ t = T ∧ h < H)
          · rw [if_pos hc2, if_pos ⟨hc2.1, by omega⟩]
          · rw [if_neg hc2, if_neg (fun z => hc2 ⟨z.1, by omega⟩)]
  have rowT : ∀ (m T H n : Nat) (τ : Mm) (w2 w3 w4 : Int32), H + m = T + 1 → (T : Int) < ru 1 → t0 ≤ T → I τ T H → n = allN (wDif ru W) T + rowN (wDif ru W T) H → w2 = jI n → w3 = jI T → w4 = jI H → (∀ τ' v u, I τ' (T + 1) 0 → v = jI (allN (wDif ru W) (T + 1) : Int) → u = jI ((T + 1 : Nat) : Int) → Wp l G (d + 10) mX12_adopts 27 [(0, .ref 98), (1, .ref w), (2, .int v), (3, .int u)] [] τ' Q) → Wp l G (d + 10) mX12_adopts 40 [(0, .ref 98), (1, .ref w), (2, .int w2), (3, .int w3), (4, .int w4)] [] τ Q := by
    intro m
    induction m with
    | zero =>
      intro T H n τ w2 w3 w4 hm hT hT0 hI hn e2 e3 e4 hgo
      refine wX12_adopts [(27, [0, 1, 2, 3])] 40 ?_
      refine brlt T H (fun _ => ?_) (fun q => by omega) e3 e4
      obtain rfl : H = T + 1 := by omega
      refine hgo τ _ _ ⟨hI.1, ?_, hI.2.2⟩ (by rw [e2, hn]; rfl) (by rw [e3]; first | rfl | assumption | (simp only [jlit, jneg, jadd, jsub, jmul]; done) | (simp only [jlit, jneg, jadd, jsub, jmul]; congr 1 <;> omega) | (congr 1 <;> omega))
      have e : wAd ru W (T + 1) 0 = wAd ru W T (T + 1) := by
        funext t h
        unfold wAd
        by_cases hc : wC ru W t h ∧ (t < T + 1 ∨ t = T + 1 ∧ h < 0)
        · rw [if_pos hc, if_pos ⟨hc.1, by have := hc.1.2.2.2.2; omega⟩]
        · rw [if_neg hc, if_neg (fun z => hc ⟨z.1, by omega⟩)]
      rw [e]
      exact hI.2.1
    | succ m ih =>
      intro T H n τ w2 w3 w4 hm hT hT0 hI hn e2 e3 e4 hgo
      exact step T H n τ w2 w3 w4 hT (by omega) hT0 hI e2 e3 e4 (fun τ' v u hI' hv hu => ih T (H + 1) (n + wDif ru W T H) τ' v w3 u (by omega) hT hT0 hI' (by rw [hn]; show _ = _ + (rowN (wDif ru W T) H + wDif ru W T H); omega) hv e3 hu hgo)
  have outer : ∀ (m T : Nat) (τ : Mm) (w2 w3 : Int32), (T : Int) + m = ru 1 → t0 ≤ T → I τ T 0 → w2 = jI (allN (wDif ru W) T : Int) → w3 = jI T → Wp l G (d + 10) mX12_adopts 27 [(0, .ref 98), (1, .ref w), (2, .int w2), (3, .int w3)] [] τ Q := by
    intro m
    induction m with
    | zero =>
      intro T τ w2 w3 hm hT0 hI e2 e3
      have hE1 : ME τ ru := hE.fr (hI.1.1 101 (by decide) (Ne.symm n101))
      have eN : allN (wDif ru W) T = wN ru W := by unfold wN; congr 1; omega
      have hb := hle T (by omega)
      rw [eN] at e2 hb
      have hM9 : Mr τ ru w (wAdopt ru W) := by
        have e : wAd ru W T 0 = fun t h => if wC ru W t h then wBest ru W t h else W.de t h := by
          funext t h
          unfold wAd
          by_cases hc : wC ru W t h
          · rw [if_pos ⟨hc, by have := hc.2.1; omega⟩, if_pos hc]
          · rw [if_neg (fun z => hc z.1), if_neg hc]
        have := hI.2.1
        rw [e] at this
        exact this
      have fin := hq (uI (uI τ 98 33 w2) 98 34 w2) ((hI.1.put n98 (Or.inl rfl)).put n98 (Or.inr rfl)) (by rw [uI_ne (Or.inr (by decide)), uI_at]; exact e2) (by rw [uI_at]; exact e2) (hM9.fr (fun k _ => by rw [uI_n n98, uI_n n98]) hr)
      refine wX12_adopts [] 60 ?_
      refine ldI 14 1 (hE1.2 1 (by omega)) ?_
      refine brle (ru 1) T (fun _ => ?_) (fun q => by omega) rfl e3
      refine breq (wN ru W) 0 (fun z => ?_) (fun z => ?_) e2
      · rw [if_pos (by omega)] at fin
        exact fin
      · rw [if_neg (by omega)] at fin
        exact fin
    | succ m ih =>
      intro T τ w2 w3 hm hT0 hI e2 e3
      have hE1 : ME τ ru := hE.fr (hI.1.1 101 (by decide) (Ne.symm n101))
      refine wX12_adopts [(40, [0, 1, 2, 3, 4])] 60 ?_
      refine ldI 14 1 (hE1.2 1 (by omega)) ?_
      refine brle (ru 1) T (fun q => by omega) (fun _ => ?_) rfl e3
      exact rowT (T + 1) T 0 _ τ w2 w3 _ (by omega) (by omega) hT0 hI rfl e2 e3 rfl (fun τ' v u hI' hv hu => ih (T + 1) τ' v u (by push_cast at hm ⊢; omega) (by omega) hI' hv hu)
  refine vX12_adopts [(27, [0, 1, 2, 3])] 60 ?_
  refine ldI (lenI w) 2 (hM0.1 2 (by omega)) ?_
  refine ldI (lenI w) 3 (hM0.1 3 (by omega)) ?_
  refine c_laysW none (Or.inl rfl) hw hE0 hM0 hs0 hB (by decide) rfl (fun τ g1 g2 g3 g4 g5 => ?_)
  rw [uI_id hs] at g1 g2
  have ew : τ.1 w = σ.1 w := g1 w (by simp; omega)
  have hM2 : Mr τ ru w W := hM.fr (fun k _ => by rw [ew]) hr
  refine ldI (lenI w) 0 (hM2.1 0 (by omega)) ?_
  have ez : wAd ru W t0 0 = W.de := by
    funext t h
    unfold wAd
    rw [if_neg (fun z => by have := z.1.1; omega)]
  refine outer ((ru 1).toNat - t0) t0 τ _ _ (by omega) (Nat.le_refl _) ⟨⟨fun a q1 q2 => g1 a (fun q => q1 (by simp at q ⊢; omega)), fun a q1 => g2 a (fun q => q1 (by simp at q ⊢; omega)) (fun q => q1 (by rw [q]; simp)), fun k _ _ => by rw [g1 98 (by decide)], fun k _ => by rw [ew]⟩, by rw [ez]; exact hM2, g3, g4 W.r (Nat.le_refl _), g5 W.r (Nat.le_refl _)⟩ ?_ (by rw [e0])
  rw [allN_zero t0 (fun t h q1 q2 => by unfold wDif; rw [if_neg (fun z => by have := z.1.1; omega)])]
  rfl
end ME2
