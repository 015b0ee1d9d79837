-- small ones of the class; acts by draws
section KSm
variable {l : Launch} {G : GT} {d : Nat} {σ : Mm} {Q : Po} {ru : Nat → Int}
theorem k_noLoan (r : Int) (h : σ.1 1 1 = jI r) (hr : 0 ≤ r ∧ r ≤ 12) (hq : Q (some (.int (if r = 0 then 1 else 0))) σ) : MW l G d mX11_noLoan [.ref 0] σ Q := by
  refine vX11_noLoan [] 40 ?_
  refine ldI 14 1 h ?_
  refine breq r 0 (fun q => ?_) (fun q => ?_)
  · rw [if_pos q] at hq
    exact And.intro (Or.inr rfl) hq
  · rw [if_neg q] at hq
    exact And.intro (Or.inl rfl) hq
theorem k_closed (r f : Int) (h : σ.1 1 1 = jI r) (hr : 0 ≤ r ∧ r ≤ 12) (h2 : r ≠ 0 → σ.1 2 11 = jI f ∧ (f = 0 ∨ f = 1)) (hq : Q (some (.int (if r = 0 ∨ f = 1 then 1 else 0))) σ) : MW l G (d + 1) mX11_closed [.ref 0] σ Q := by
  refine vX11_closed [] 40 ?_
  refine k_noLoan r h hr ?_
  refine brz _ (fun q => ?_) (fun q => ?_)
  · obtain ⟨e, he⟩ := h2 q
    refine ldI 115 11 e ?_
    refine breq f 0 (fun z => ?_) (fun z => ?_)
    · rw [if_neg (by omega)] at hq
      exact And.intro (Or.inl rfl) hq
    · rw [if_pos (by omega)] at hq
      exact And.intro (Or.inr rfl) hq
  · rw [if_pos (Or.inl q)] at hq
    exact And.intro (Or.inr rfl) hq
theorem k_isNode {x y : Int32} (r a b : Int) (h : σ.1 1 1 = jI r) (hr : 0 ≤ r ∧ r ≤ 12) (ra : R31 a) (rb : R31 b) (hq : Q (some (.int (if 0 ≤ a ∧ a < r ∧ 0 ≤ b ∧ b ≤ a then 1 else 0))) σ) (ex : x = jI a := by first | rfl | assumption | (simp only [jlit, jneg, jadd, jsub, jmul]; done) | (simp only [jlit, jneg, jadd, jsub, jmul]; congr 1 <;> omega) | (congr 1 <;> omega)) (ey : y = jI b := by first | rfl | assumption | (simp only [jlit, jneg, jadd, jsub, jmul]; done) | (simp only [jlit, jneg, jadd, jsub, jmul]; congr 1 <;> omega) | (congr 1 <;> omega)) : MW l G d mX11_isNode [.ref 0, .int x, .int y] σ Q := by
  have no : ¬ (0 ≤ a ∧ a < r ∧ 0 ≤ b ∧ b ≤ a) → ((0 : Int32) = 0 ∨ (0 : Int32) = 1) ∧ Q (some (.int 0)) σ := fun q => by
    rw [if_neg q] at hq
    exact ⟨Or.inl rfl, hq⟩
  refine vX11_isNode [] 40 ?_
  refine brlt a 0 (fun q => no (by omega)) (fun q1 => ?_)
  refine ldI 14 1 h ?_
  refine brle r a (fun q => no (by omega)) (fun q2 => ?_)
  refine brlt b 0 (fun q => no (by omega)) (fun q3 => ?_)
  refine brlt a b (fun q => no (by omega)) (fun q4 => ?_)
  rw [if_pos (by omega)] at hq
  exact And.intro (Or.inr rfl) hq
theorem k_hereD {W : Wk} (t h : Nat) (hK : Kr σ 2 W) (h0 : W.f 0 = t) (h1 : W.f 1 = h) (ht : t ≤ 100) (hq : Q (some (.int (jI (nd t h)))) σ) : MW l G (d + 1) mX11_here [.ref 0] σ Q := by
  refine vX11_here [] 30 ?_
  refine ldI 115 0 (hK.1 0 (by omega)) ?_
  refine ldI 115 1 (hK.1 1 (by omega)) ?_
  exact k_nodeOf t h hq (by show jI (W.f 0) = _; rw [h0]) (by show jI (W.f 1) = _; rw [h1])
/-- what is chosen, at the places 5 -/
theorem k_choose (x : Int64) (hx : σ.2 0 13 = x) (hR : RC σ ru)
    (hq : ∀ τ : Mm, (∀ c, c ≠ 5 → τ.1 c = σ.1 c) → (∀ c, c ≠ 0 → τ.2 c = σ.2 c) → τ.2 0 13 = (dPick ru x).2.2.2.2 → τ.1 5 0 = jI (dPick ru x).1 → ((dPick ru x).1 = 5 ∨ (dPick ru x).1 = 6 → τ.1 5 1 = jI (dPick ru x).2.1 ∧ τ.1 5 2 = jI (dPick ru x).2.2.1) → ((dPick ru x).1 = 6 → τ.1 5 3 = jI (dPick ru x).2.2.2.1) → Q none τ) : MW l G (d + 1) mX11_chooseByDraws [.ref 0] σ Q := by
  have hr' := hR.1
  unfold RB at hr'
  obtain ⟨v8, e8⟩ : ∃ v, dV x 8 = v := ⟨_, rfl⟩
  obtain ⟨v100, e100⟩ : ∃ v, dV (dX x) 100 = v := ⟨_, rfl⟩
  obtain ⟨v3, e3⟩ : ∃ v, dV (dX x) 3 = v := ⟨_, rfl⟩
  obtain ⟨a12, ea12⟩ : ∃ v, dV (dX x) 12 = v := ⟨_, rfl⟩
  obtain ⟨b1, eb1⟩ : ∃ v, dV (dX (dX x)) 1000 = v := ⟨_, rfl⟩
  obtain ⟨b12, eb12⟩ : ∃ v, dV (dX (dX x)) 12 = v := ⟨_, rfl⟩
  obtain ⟨c2, ec2⟩ : ∃ v, dV (dX (dX (dX x))) 200 = v := ⟨_, rfl⟩
  have h8 := dV_in x 8 (by omega)
  have h100 := dV_in (dX x) 100 (by omega)
  have h3 := dV_in (dX x) 3 (by omega)
  have ha12 := dV_in (dX x) 12 (by omega)
  have hb1 := dV_in (dX (dX x)) 1000 (by omega)
  have hb12 := dV_in (dX (dX x)) 12 (by omega)
  have hc2 := dV_in (dX (dX (dX x))) 200 (by omega)
  rw [e8] at h8
  rw [e100] at h100
  rw [e3] at h3
  rw [ea12] at ha12
  rw [eb1] at hb1
  rw [eb12] at hb12
  rw [ec2] at hc2
  have ep0 : dPick ru x = if v8 < 3 then (if v100 < ru 6 then 0 else 1, 0, 0, 0, dX (dX x)) else if v8 = 3 then (7, 0, 0, 0, dX x) else if v8 = 4 then (2 + v3, 0, 0, 0, dX (dX x)) else if v8 = 5 then (5, a12 + 1, b1, 0, dX (dX (dX x))) else (6, a12, b12, c2, dX (dX (dX (dX x)))) := by
    unfold dPick
    rw [e8, e100, e3, ea12, eb1, eb12, ec2]
  have s1 : ∀ ρ : Mm, ∀ v, (uJ ρ 0 13 v).2 0 13 = v := fun ρ v => by rw [uJ_s, updL_s]
  have s2 : ∀ (ρ : Mm) (a k : Nat) (v : Int32), (uI ρ a k v).2 = ρ.2 := fun _ _ _ _ => rfl
  have s3 : ∀ (ρ : Mm) (v : Int64), (uJ ρ 0 13 v).1 = ρ.1 := fun _ _ => rfl
  have x8 : (jI v8).toInt = v8 := jI_T (by omega)
  have hq' : ∀ (k a b c : Int) (x' : Int64), dPick ru x = (k, a, b, c, x') → ∀ τ : Mm, (∀ c, c ≠ 5 → τ.1 c = σ.1 c) → (∀ c, c ≠ 0 → τ.2 c = σ.2 c) → τ.2 0 13 = x' → τ.1 5 0 = jI k → (k = 5 ∨ k = 6 → τ.1 5 1 = jI a ∧ τ.1 5 2 = jI b) → (k = 6 → τ.1 5 3 = jI c) → Q none τ := by
    intro k a b c x' ep τ h1 h2 h3 h4 h5 h6
    rw [ep] at hq
    exact hq τ h1 h2 h3 h4 h5 h6
  have g3 : v8 < 3 → Wp l G (d + 1) mX11_chooseByDraws 44 [(0, .ref 0)] [] (uJ σ 0 13 (dX x)) Q := by
    intro q0
    refine wX11_chooseByDraws [] 100 ?_
    refine k_draw 100 (by omega) ?_
    rw [s1, e100]
    refine ldI 14 6 (show _ = jI (ru 6) from hR.2 6 (by omega)) ?_
    refine brle (ru 6) v100 (fun q => ?_) (fun q => ?_)
    · refine stI 4 0 ?_
      refine hq' 1 0 0 0 (dX (dX x)) ?_ _ (fun c hc => by rw [uI_n hc]; rfl) (fun c hc => by rw [s2, uJ_n hc, uJ_n hc]) (by rw [s2]; exact s1 _ _) (uI_at _ _ _ _) (fun z => by omega) (fun z => by omega)
      rw [ep0, if_pos q0, if_neg (by omega)]
    · refine stI 4 0 ?_
      refine hq' 0 0 0 0 (dX (dX x)) ?_ _ (fun c hc => by rw [uI_n hc]; rfl) (fun c hc => by rw [s2, uJ_n hc, uJ_n hc]) (by rw [s2]; exact s1 _ _) (uI_at _ _ _ _) (fun z => by omega) (fun z => by omega)
      rw [ep0, if_pos q0, if_pos (by omega)]
  refine vX11_chooseByDraws [(44, [0])] 120 ?_
  refine k_draw 8 (by omega) ?_
  rw [hx, e8]
  refine ⟨⟨fun e => ?_, fun e => ?_, fun e => ?_, fun e => ?_, fun e => ?_, fun e => ?_, trivial⟩, fun e => ?_⟩
  · exact g3 (by omega)
  · exact g3 (by omega)
  · exact g3 (by omega)
  · refine stI 4 0 ?_
    refine hq' 7 0 0 0 (dX x) ?_ _ (fun c hc => by rw [uI_n hc]; rfl) (fun c hc => by rw [s2, uJ_n hc]) (by rw [s2]; exact s1 _ _) (uI_at _ _ _ _) (fun z => by omega) (fun z => by omega)
    rw [ep0, if_neg (by omega), if_pos (by omega)]
  · refine k_draw 3 (by omega) ?_
    rw [s1, e3]
    refine stI 4 0 ?_
    refine hq' (2 + v3) 0 0 0 (dX (dX x)) ?_ _ (fun c hc => by rw [uI_n hc]; rfl) (fun c hc => by rw [s2, uJ_n hc, uJ_n hc]) (by rw [s2]; exact s1 _ _) (by rw [uI_at]; first | rfl | assumption | (simp only [jlit, jneg, jadd, jsub, jmul]; done) | (simp only [jlit, jneg, jadd, jsub, jmul]; congr 1 <;> omega) | (congr 1 <;> omega)) (fun z => by omega) (fun z => by omega)
    rw [ep0, if_neg (by omega), if_neg (by omega), if_pos (by omega)]
  · refine stI 4 0 ?_
    refine k_draw 12 (by omega) ?_
    rw [s2, s1, ea12]
    refine stI 4 1 ?_
    refine k_draw 1000 (by omega) ?_
    rw [s2, s1, eb1]
    refine stI 4 2 ?_
    refine hq' 5 (a12 + 1) b1 0 (dX (dX (dX x))) ?_ _ (fun c hc => by rw [uI_n hc, s3, uI_n hc, s3, uI_n hc]; rfl) (fun c hc => by rw [s2, uJ_n hc, s2, uJ_n hc, s2, uJ_n hc]) (by rw [s2]; exact s1 _ _) (by rw [uI_ne (Or.inr (by decide)), s3, uI_ne (Or.inr (by decide)), s3, uI_at]; rfl) (fun z => ⟨by rw [uI_ne (Or.inr (by decide)), s3, uI_at]; first | rfl | assumption | (simp only [jlit, jneg, jadd, jsub, jmul]; done) | (simp only [jlit, jneg, jadd, jsub, jmul]; congr 1 <;> omega) | (congr 1 <;> omega), uI_at _ _ _ _⟩) (fun z => by omega)
    rw [ep0, if_neg (by omega), if_neg (by omega), if_neg (by omega), if_pos (by omega)]
  · have e : (jI v8).toInt < 0 ∨ 5 < (jI v8).toInt := e
    refine stI 4 0 ?_
    refine k_draw 12 (by omega) ?_
    rw [s2, s1, ea12]
    refine stI 4 1 ?_
    refine k_draw 12 (by omega) ?_
    rw [s2, s1, eb12]
    refine stI 4 2 ?_
    refine k_draw 200 (by omega) ?_
    rw [s2, s1, ec2]
    refine stI 4 3 ?_
    refine hq' 6 a12 b12 c2 (dX (dX (dX (dX x)))) ?_ _ (fun c hc => by rw [uI_n hc, s3, uI_n hc, s3, uI_n hc, s3, uI_n hc]; rfl) (fun c hc => by rw [s2, uJ_n hc, s2, uJ_n hc, s2, uJ_n hc, s2, uJ_n hc]) (by rw [s2]; exact s1 _ _) (by rw [uI_ne (Or.inr (by decide)), s3, uI_ne (Or.inr (by decide)), s3, uI_ne (Or.inr (by decide)), s3, uI_at]; rfl) (fun z => ⟨by rw [uI_ne (Or.inr (by decide)), s3, uI_ne (Or.inr (by decide)), s3, uI_at], by rw [uI_ne (Or.inr (by decide)), s3, uI_at]⟩) (fun z => uI_at _ _ _ _)
    rw [ep0, if_neg (by omega), if_neg (by omega), if_neg (by omega), if_neg (by omega)]
end KSm
