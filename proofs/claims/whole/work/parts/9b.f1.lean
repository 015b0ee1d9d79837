-- masses: the reference
def mU (ru : Nat → Int) (m : Int32) : Int32 := (m.toInt64 * (jI (ru 6)).toInt64 / 100).toInt32
theorem mU_0 (ru : Nat → Int) : mU ru 0 = 0 := by
  unfold mU
  rw [show (0 : Int32).toInt64 = 0 from rfl, Int64.zero_mul]
  rfl
def mI (ru : Nat → Int) (W : Wk) (k : Nat) (a : Nat → Int32) (h : Nat) : Int32 := if wBest ru W (W.t + k) h = 0 then mU ru (a h) else 0
def mD (ru : Nat → Int) (W : Wk) (k : Nat) (a : Nat → Int32) (h : Nat) : Int32 := if wBest ru W (W.t + k) h = 0 then a h - mU ru (a h) else 0
def mP (ru : Nat → Int) (W : Wk) (k : Nat) (a : Nat → Int32) (H h : Nat) : Int32 := (if 1 ≤ h ∧ h - 1 < H then mI ru W k a (h - 1) else 0) + (if h < H then mD ru W k a h else 0)
def mA (ru : Nat → Int) (W : Wk) : Nat → Nat → Int32
  | 0, h => if h = W.h then 1000000000 else 0
  | k + 1, h => mP ru W k (mA ru W k) (h + 1) h
theorem mI_0 {ru : Nat → Int} {W : Wk} {k : Nat} {a : Nat → Int32} {h : Nat} (e : a h = 0) : mI ru W k a h = 0 ∧ mD ru W k a h = 0 := by
  unfold mI mD
  rw [e, mU_0]
  exact ⟨by split <;> rfl, by split <;> rfl⟩
theorem mA_0 (ru : Nat → Int) (W : Wk) : ∀ k h, (h < W.h ∨ W.h + k < h) → mA ru W k h = 0
  | 0, h, q => by
    show (if h = W.h then (1000000000 : Int32) else 0) = 0
    rw [if_neg (by omega)]
  | k + 1, h, q => by
    show mP ru W k (mA ru W k) (h + 1) h = 0
    unfold mP
    rw [if_pos (show h < h + 1 by omega), (mI_0 (mA_0 ru W k h (by omega))).2]
    by_cases z : 1 ≤ h
    · rw [if_pos ⟨z, by omega⟩, (mI_0 (mA_0 ru W k (h - 1) (by omega))).1]
      rfl
    · rw [if_neg (fun w => z w.1)]
      rfl
theorem mP_s (ru : Nat → Int) (W : Wk) (k : Nat) (a : Nat → Int32) (H h : Nat) : mP ru W k a (H + 1) h = if h = H + 1 then mP ru W k a H h + mI ru W k a H else if h = H then mP ru W k a H h + mD ru W k a H else mP ru W k a H h := by
  unfold mP
  by_cases q1 : h = H + 1
  · subst q1
    rw [if_pos (show 1 ≤ H + 1 ∧ H + 1 - 1 < H + 1 by omega), if_neg (show ¬ H + 1 < H + 1 by omega), if_pos rfl, if_neg (show ¬ (1 ≤ H + 1 ∧ H + 1 - 1 < H) by omega), if_neg (show ¬ H + 1 < H by omega), show H + 1 - 1 = H by omega]
    simp
  · rw [if_neg q1]
    by_cases q2 : h = H
    · subst q2
      rw [if_pos rfl, if_pos (show h < h + 1 by omega), if_neg (show ¬ h < h by omega)]
      by_cases z : 1 ≤ h
      · rw [if_pos (show 1 ≤ h ∧ h - 1 < h + 1 by omega), if_pos (show 1 ≤ h ∧ h - 1 < h by omega)]
        simp
      · rw [if_neg (show ¬ (1 ≤ h ∧ h - 1 < h + 1) by omega), if_neg (show ¬ (1 ≤ h ∧ h - 1 < h) by omega)]
        simp
    · rw [if_neg q2]
      have e1 : (1 ≤ h ∧ h - 1 < H + 1) = (1 ≤ h ∧ h - 1 < H) := propext (by omega)
      have e2 : (h < H + 1) = (h < H) := propext (by omega)
      simp only [e1, e2]
theorem mP_all (ru : Nat → Int) (W : Wk) (k H h : Nat) (hH : W.h + k < H) (hh : h ≤ H) : mP ru W k (mA ru W k) H h = mA ru W (k + 1) h := by
  show _ = mP ru W k (mA ru W k) (h + 1) h
  unfold mP
  have e1 : (1 ≤ h ∧ h - 1 < H) = (1 ≤ h ∧ h - 1 < h + 1) := propext (by omega)
  simp only [e1]
  congr 1
  rw [if_pos (show h < h + 1 by omega)]
  by_cases q : h < H
  · rw [if_pos q]
  · rw [if_neg q, (mI_0 (mA_0 ru W k h (by omega))).2]
def rowS (g : Nat → Int32) : Nat → Int32
  | 0 => 0
  | n + 1 => rowS g n + g n
def allS (t0 : Nat) (g : Nat → Nat → Int32) : Nat → Int32
  | 0 => 0
  | k + 1 => allS t0 g k + rowS (g k) (t0 + k + 1)
def gD (ru : Nat → Int) (W : Wk) (dd : Int) (k h : Nat) : Int32 := if wBest ru W (W.t + k) h = dd then mA ru W k h else 0
/-- masses behind k years and the nodes ahead of height H -/
def MI (σ : Mm) (ru : Nat → Int) (W : Wk) (k H : Nat) : Prop :=
  (∀ j h, j ≤ k → h ≤ W.t + j → σ.1 120 (12 * (W.t + j) + h) = mA ru W j h) ∧
  (((W.t + k + 1 : Nat) : Int) < ru 1 → ∀ h, h ≤ W.t + k + 1 → σ.1 120 (12 * (W.t + k + 1) + h) = mP ru W k (mA ru W k) H h) ∧
  (∀ t h : Nat, W.t + k + 1 < t → (t : Int) < ru 1 → h ≤ t → σ.1 120 (12 * t + h) = 0) ∧
  σ.1 98 41 = allS W.t (gD ru W 1) k + rowS (gD ru W 1 k) H ∧
  σ.1 98 42 = allS W.t (gD ru W 2) k + rowS (gD ru W 2 k) H ∧
  σ.1 98 43 = (if ((W.t + k : Nat) : Int) = ru 1 - 1 then rowS (gD ru W 0 k) H else 0)
section MMa
variable {l : Launch} {G : GT} {d : Nat} {σ : Mm} {Q : Po} {ru : Nat → Int} {W : Wk}
theorem c_goesOn {x y : Int32} (k H : Nat) (hM : RM σ ru W) (hL : LY σ ru W.am) (g3 : TB σ 115 ru W.r 0 0 (zco ru W.am W.ra none W.r (W.f 2))) (g4 : TN σ 115 ru W.r (zN ru W.am W.ra none W.r)) (hT : ((W.t + k : Nat) : Int) < ru 1) (hH : H ≤ W.t + k) (hI : MI σ ru W k H)
    (hq : ∀ τ : Mm, (∀ a, a ≠ 98 → a ≠ 120 → τ.1 a = σ.1 a) → τ.2 = σ.2 → (∀ k, k ≠ 41 → k ≠ 42 → k ≠ 43 → τ.1 98 k = σ.1 98 k) → MI τ ru W k (H + 1) → Q none τ) (ex : x = jI ((W.t + k : Nat) : Int) := by first | rfl | assumption | (simp only [jlit, jneg, jadd, jsub, jmul]; done) | (simp only [jlit, jneg, jadd, jsub, jmul]; congr 1 <;> omega) | (congr 1 <;> omega)) (ey : y = jI (H : Int) := by first | rfl | assumption | (simp only [jlit, jneg, jadd, jsub, jmul]; done) | (simp only [jlit, jneg, jadd, jsub, jmul]; congr 1 <;> omega) | (congr 1 <;> omega)) : MW l G (d + 8) mX12_goesOn [.ref 98, .int x, .int y] σ Q := by
  subst ex
  subst ey
  obtain ⟨hr3, r2, ht, hh, hht⟩ := hM.r
  have hr := hM.2.1.1
  have hr' := hr
  unfold RB at hr'
  have hW := hM.2.2.2.2
  unfold WB at hW
  obtain ⟨i1, i2, i3, i4, i5, i6⟩ := hI
  have em := i1 k H (Nat.le_refl _) hH
  have bb := wBest_in ru W (W.t + k) H
  have r1 : ∀ dd, rowS (gD ru W dd k) (H + 1) = rowS (gD ru W dd k) H + gD ru W dd k H := fun _ => rfl
  -- when nothing goes on
  have keep : (mI ru W k (mA ru W k) H = 0 ∧ mD ru W k (mA ru W k) H = 0) → ∀ τ : Mm, τ.1 120 = σ.1 120 → τ.1 98 41 = σ.1 98 41 + gD ru W 1 k H → τ.1 98 42 = σ.1 98 42 + gD ru W 2 k H → τ.1 98 43 = (if ((W.t + k : Nat) : Int) = ru 1 - 1 then σ.1 98 43 + gD ru W 0 k H else σ.1 98 43) → MI τ ru W k (H + 1) := by
    intro z τ e1 e2 e3 e4
    refine ⟨fun j h q1 q2 => by rw [e1]; exact i1 j h q1 q2, fun q1 h q2 => ?_, fun t h q1 q2 q3 => by rw [e1]; exact i3 t h q1 q2 q3, ?_, ?_, ?_⟩
    · rw [e1, i2 q1 h q2, mP_s, z.1, z.2]
      split
      · simp
      · split
        · simp
        · rfl
    · rw [e2, i4, r1, Int32.add_assoc]
    · rw [e3, i5, r1, Int32.add_assoc]
    · rw [e4, i6]
      split
      · rw [r1]
      · rfl
  refine vX12_goesOn [(61, [0, 1, 2, 3, 4]), (77, [0, 1, 2, 3, 4]), (83, [0, 1, 2, 3, 4])] 90 ?_
  refine c_node ((W.t + k : Nat) : Int) (H : Int) ?_
  refine ldI 144 (12 * (W.t + k) + H) em ?_
  by_cases m0 : mA ru W k H = 0
  · refine And.intro (fun _ => ?_) (fun q => absurd m0 q)
    refine hq σ (fun _ _ _ => rfl) rfl (fun _ _ _ _ => rfl) (keep (mI_0 m0) σ rfl ?_ ?_ ?_)
    · unfold gD
      rw [m0]
      split <;> simp
    · unfold gD
      rw [m0]
      split <;> simp
    · unfold gD
      rw [m0]
      split
      · split <;> simp
      · rfl
  · refine And.intro (fun q => absurd q m0) (fun _ => ?_)
    refine ldI 494 3 (show _ = jI (W.r : Int) by rw [hr3]; exact hM.2.2.1.1 3 (by omega)) ?_
    refine ldI 494 2 (hM.2.2.1.1 2 (by omega)) ?_
    refine c_bestDeed W.r 0 (W.t + k) H (W.f 2) _ _ hM.pm hL (by decide) r2 (by omega) hT hH hW.2.1 (g3.up (by omega)) g4 ?_
    have hgd : ∀ dd, gD ru W dd k H = if wBest ru W (W.t + k) H = dd then mA ru W k H else 0 := fun _ => rfl
    -- not held: noted
    have stop : ∀ (τ : Mm), wBest ru W (W.t + k) H ≠ 0 → (∀ a, a ≠ 98 → τ.1 a = σ.1 a) → τ.2 = σ.2 → (∀ k, k ≠ 41 → k ≠ 42 → τ.1 98 k = σ.1 98 k) → τ.1 98 41 = σ.1 98 41 + gD ru W 1 k H → τ.1 98 42 = σ.1 98 42 + gD ru W 2 k H → Q none τ := by
      intro τ z e1 e2 e3 e4 e5
      refine hq τ (fun a q1 _ => e1 a q1) e2 (fun k q1 q2 _ => e3 k q1 q2) (keep ?_ τ (e1 120 (by decide)) e4 e5 ?_)
      · unfold mI mD
        rw [if_neg z]
        exact ⟨rfl, by rw [if_neg z]⟩
      · rw [e3 43 (by decide) (by decide), hgd, if_neg z]
        split <;> simp
    by_cases b0 : wBest ru W (W.t + k) H = 0
    · have b0' : zbd ru W.am W.ra (W.f 2) (zco ru W.am W.ra none W.r (W.f 2)) (zN ru W.am W.ra none W.r) W.r (W.t + k) H = 0 := b0
      rw [b0']
      refine breq 0 1 (fun q => by omega) (fun _ => ?_)
      refine wX12_goesOn [(77, [0, 1, 2, 3, 4])] 90 ?_
      refine breq 0 2 (fun q => by omega) (fun _ => ?_)
      refine wX12_goesOn [(83, [0, 1, 2, 3, 4])] 90 ?_
      refine breq 0 0 (fun _ => ?_) (fun q => absurd rfl q)
      have g1 : gD ru W 1 k H = 0 := by rw [hgd, if_neg (by omega)]
      have g2 : gD ru W 2 k H = 0 := by rw [hgd, if_neg (by omega)]
      have g0 : gD ru W 0 k H = mA ru W k H := by rw [hgd, if_pos b0]
      refine wX12_goesOn [] 90 ?_
      refine ldI 14 1 (hM.2.1.2 1 (by omega)) ?_
      refine breq ((W.t + k : Nat) : Int) (ru 1 - 1) (fun q => ?_) (fun q => ?_)
      · have em' : mA ru W k H = mA ru W k H := rfl
        refine hq _ (fun a q1 _ => by rw [uI_n q1]) rfl (fun k _ _ q3 => by rw [uI_ne (Or.inr q3)]) ⟨fun j h q1 q2 => by rw [uI_n (by decide)]; exact i1 j h q1 q2, fun q1 => by omega, fun t h q1 q2 q3 => by rw [uI_n (by decide)]; exact i3 t h q1 q2 q3, ?_, ?_, ?_⟩
        · rw [uI_ne (Or.inr (by decide)), i4, r1, g1]
          simp
        · rw [uI_ne (Or.inr (by decide)), i5, r1, g2]
          simp
        · rw [uI_at, i6, if_pos q, if_pos q, r1, g0]
      · have hn : ((W.t + k + 1 : Nat) : Int) < ru 1 := by omega
        refine ldI 14 6 (hM.2.1.2 6 (by omega)) ?_
        refine And.intro (by decide) ?_
        refine c_node ((W.t + k + 1 : Nat) : Int) ((H + 1 : Nat) : Int) ?_
        refine ldI 144 (12 * (W.t + k + 1) + (H + 1)) (i2 hn (H + 1) (by omega)) ?_
        refine stI 144 (12 * (W.t + k + 1) + (H + 1)) ?_
        refine c_node ((W.t + k + 1 : Nat) : Int) (H : Int) ?_
        refine ldI 144 (12 * (W.t + k + 1) + H) (show _ = mP ru W k (mA ru W k) H H by rw [uI_ne (Or.inr (by omega))]; exact i2 hn H (by omega)) ?_
        refine stI 144 (12 * (W.t + k + 1) + H) ?_
        have eI : mI ru W k (mA ru W k) H = mU ru (mA ru W k H) := by unfold mI; rw [if_pos b0]
        have eD : mD ru W k (mA ru W k) H = mA ru W k H - mU ru (mA ru W k H) := by unfold mD; rw [if_pos b0]
        refine hq _ (fun a q1 q2 => by rw [uI_n q2, uI_n q2]) rfl (fun k _ _ _ => by rw [uI_n (by decide), uI_n (by decide)]) ⟨fun j h q1 q2 => ?_, fun q1 h q2 => ?_, fun t h q1 q2 q3 => ?_, ?_, ?_, ?_⟩
        · rw [uI_ne (Or.inr (by omega)), uI_ne (Or.inr (by omega))]
          exact i1 j h q1 q2
        · rw [mP_s]
          by_cases z1 : h = H + 1
          · subst z1
            rw [uI_ne (Or.inr (by omega)), uI_at, if_pos rfl, eI]
            rfl
          · rw [if_neg z1]
            by_cases z2 : h = H
            · subst z2
              rw [uI_at, if_pos rfl, eD]
              rfl
            · rw [if_neg z2, uI_ne (Or.inr (by omega)), uI_ne (Or.inr (by omega))]
              exact i2 hn h q2
        · rw [uI_ne (Or.inr (by omega)), uI_ne (Or.inr (by omega))]
          exact i3 t h q1 q2 q3
        · rw [uI_n (by decide), uI_n (by decide), i4, r1, g1]
          simp
        · rw [uI_n (by decide), uI_n (by decide), i5, r1, g2]
          simp
        · rw [uI_n (by decide), uI_n (by decide), i6, if_neg q, if_neg q]
    · by_cases b1 : wBest ru W (W.t + k) H = 1
      · have b1' : zbd ru W.am W.ra (W.f 2) (zco ru W.am W.ra none W.r (W.f 2)) (zN ru W.am W.ra none W.r) W.r (W.t + k) H = 1 := b1
        rw [b1']
        have g1 : gD ru W 1 k H = mA ru W k H := by rw [hgd, if_pos b1]
        have g2 : gD ru W 2 k H = 0 := by rw [hgd, if_neg (by omega)]
        refine breq 1 1 (fun _ => ?_) (fun q => absurd rfl q)
        refine wX12_goesOn [(77, [0, 1, 2, 3, 4])] 90 ?_
        refine breq 1 2 (fun q => by omega) (fun _ => ?_)
        refine wX12_goesOn [(83, [0, 1, 2, 3, 4])] 90 ?_
        refine breq 1 0 (fun q => by omega) (fun _ => ?_)
        refine stop _ b0 (fun a q1 => by rw [uI_n q1]) rfl (fun k q1 _ => by rw [uI_ne (Or.inr q1)]) (by rw [uI_at, g1]) (by rw [uI_ne (Or.inr (by decide)), g2]; simp)
      · have b2 : wBest ru W (W.t + k) H = 2 := by omega
        have b2' : zbd ru W.am W.ra (W.f 2) (zco ru W.am W.ra none W.r (W.f 2)) (zN ru W.am W.ra none W.r) W.r (W.t + k) H = 2 := b2
        rw [b2']
        have g1 : gD ru W 1 k H = 0 := by rw [hgd, if_neg (by omega)]
        have g2 : gD ru W 2 k H = mA ru W k H := by rw [hgd, if_pos b2]
        refine breq 2 1 (fun q => by omega) (fun _ => ?_)
        refine wX12_goesOn [(77, [0, 1, 2, 3, 4])] 90 ?_
        refine breq 2 2 (fun _ => ?_) (fun q => absurd rfl q)
        refine wX12_goesOn [(83, [0, 1, 2, 3, 4])] 90 ?_
        refine breq 2 0 (fun q => by omega) (fun _ => ?_)
        refine stop _ b0 (fun a q1 => by rw [uI_n q1]) rfl (fun k _ q2 => by rw [uI_ne (Or.inr q2)]) (by rw [uI_ne (Or.inr (by decide)), g1]; simp) (by rw [uI_at, g2])
end MMa
