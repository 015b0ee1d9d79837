-- nodes, copies, what stops an act
section MC
variable {l : Launch} {G : GT} {d : Nat} {σ : Mm} {Q : Po} {ru : Nat → Int} {w : Nat} {W : Wk}
theorem Wr.len (h : Wr w) : lenI w = 494 := by rcases h with rfl | rfl | rfl <;> decide
theorem c_canCome {x y : Int32} (t h : Int) (hw : Wr w) (h0 : σ.1 w 0 = jI (W.f 0)) (h1 : σ.1 w 1 = jI (W.f 1)) (b0 : 0 ≤ W.f 0 ∧ W.f 0 ≤ 100) (b1 : 0 ≤ W.f 1 ∧ W.f 1 ≤ 100) (bt : 0 ≤ t ∧ t ≤ 100) (bh : 0 ≤ h ∧ h ≤ 100) (hq : Q (some (.int (if W.f 0 ≤ t ∧ W.f 1 ≤ h ∧ h - W.f 1 ≤ t - W.f 0 then 1 else 0))) σ) (ex : x = jI t := by first | rfl | assumption | (simp only [jlit, jneg, jadd, jsub, jmul]; done) | (simp only [jlit, jneg, jadd, jsub, jmul]; congr 1 <;> omega) | (congr 1 <;> omega)) (ey : y = jI h := by first | rfl | assumption | (simp only [jlit, jneg, jadd, jsub, jmul]; done) | (simp only [jlit, jneg, jadd, jsub, jmul]; congr 1 <;> omega) | (congr 1 <;> omega)) : MW l G d mX12_canCome [.ref w, .int x, .int y] σ Q := by
  have hl := hw.len
  refine vX12_canCome [] 40 ?_
  refine ldI (lenI w) 0 h0 ?_
  refine brlt t (W.f 0) (fun z => ?_) (fun z => ?_) ex
  · rw [if_neg (by omega)] at hq
    exact And.intro (Or.inl rfl) hq
  · refine ldI (lenI w) 1 h1 ?_
    refine brlt h (W.f 1) (fun z => ?_) (fun z => ?_) ey
    · rw [if_neg (by omega)] at hq
      exact And.intro (Or.inl rfl) hq
    · refine ldI (lenI w) 1 h1 ?_
      refine ldI (lenI w) 0 h0 ?_
      refine brlt (t - W.f 0) (h - W.f 1) (fun z => ?_) (fun z => ?_) (by rw [ex, jsub]) (by rw [ey, jsub])
      · rw [if_neg (by omega)] at hq
        exact And.intro (Or.inl rfl) hq
      · rw [if_pos (by omega)] at hq
        exact And.intro (Or.inr rfl) hq
theorem c_isNode {x y : Int32} (a b : Int) (hI : σ.1 98 17 = 1) (hE : ME σ ru) (ra : R31 a) (rb : R31 b) (hq : Q (some (.int (if 0 ≤ a ∧ a < ru 1 ∧ 0 ≤ b ∧ b ≤ a then 1 else 0))) σ) (ex : x = jI a := by first | rfl | assumption | (simp only [jlit, jneg, jadd, jsub, jmul]; done) | (simp only [jlit, jneg, jadd, jsub, jmul]; congr 1 <;> omega) | (congr 1 <;> omega)) (ey : y = jI b := by first | rfl | assumption | (simp only [jlit, jneg, jadd, jsub, jmul]; done) | (simp only [jlit, jneg, jadd, jsub, jmul]; congr 1 <;> omega) | (congr 1 <;> omega)) : MW l G (d + 1) mX12_isNode [.ref 98, .int x, .int y] σ Q := by
  have hr := hE.1
  unfold RB at hr
  subst ex; subst ey
  refine vX12_isNode [] 60 ?_
  refine And.intro (fun z => absurd (hI.symm.trans z) (by decide)) (fun _ => ?_)
  refine ldI 14 1 (hE.2 1 (by omega)) ?_
  refine c_isIn a 0 (ru 1 - 1) ?_ (jI_L ra) rfl (by rw [jlit, jsub, jI_L (by omega)])
  refine brz inferInstance (fun z => ?_) (fun z => ?_)
  · rw [if_neg (by omega)] at hq
    exact And.intro (Or.inl rfl) hq
  · refine c_isIn b 0 a ?_ (jI_L rb) rfl (jI_L ra)
    refine brz inferInstance (fun z2 => ?_) (fun z2 => ?_)
    · rw [if_neg (by omega)] at hq
      exact And.intro (Or.inl rfl) hq
    · rw [if_pos (by omega)] at hq
      exact And.intro (Or.inr rfl) hq
theorem c_isNode0 {x y : Int32} (hI : σ.1 98 17 = 0) (hq : Q (some (.int 0)) σ) : MW l G (d + 1) mX12_isNode [.ref 98, .int x, .int y] σ Q := by
  refine vX12_isNode [] 60 ?_
  refine And.intro (fun _ => And.intro (Or.inl rfl) hq) (fun z => absurd hI z)
theorem c_isOver (hw : Wr w) (hI : σ.1 98 17 = 1) (h6 : σ.1 w 6 = jI (W.f 6)) (b6 : W.f 6 = 0 ∨ W.f 6 = 1) (hq : Q (some (.int (if W.f 6 = 1 then 1 else 0))) σ) : MW l G d mX12_isOver [.ref 98, .ref w] σ Q := by
  have hl := hw.len
  refine vX12_isOver [] 60 ?_
  refine And.intro (fun z => absurd (hI.symm.trans z) (by decide)) (fun _ => ?_)
  refine ldI (lenI w) 6 h6 ?_
  refine breq (W.f 6) 1 (fun z => ?_) (fun z => ?_)
  · rw [if_pos z] at hq
    exact And.intro (Or.inr rfl) hq
  · rw [if_neg z] at hq
    exact And.intro (Or.inl rfl) hq
theorem c_isOver0 (hI : σ.1 98 17 = 0) (hq : Q (some (.int 1)) σ) : MW l G d mX12_isOver [.ref 98, .ref w] σ Q := by
  refine vX12_isOver [] 60 ?_
  refine And.intro (fun _ => And.intro (Or.inr rfl) hq) (fun z => absurd hI z)
theorem c_copyRow {a b : Nat} {x y : Int32} (p q : Nat) (hab : a ≠ b) (ha : p + 494 ≤ lenI a) (hb : q + 494 ≤ lenI b) (la : lenI a < 100000) (lb : lenI b < 100000) (hq : ∀ τ : Mm, τ.2 = σ.2 → (∀ c, c ≠ b → τ.1 c = σ.1 c) → (∀ j, τ.1 b j = if q ≤ j ∧ j < q + 494 then σ.1 a (p + (j - q)) else σ.1 b j) → Q none τ) (ex : x = jI p := by first | rfl | assumption | (simp only [jlit, jneg, jadd, jsub, jmul]; done) | (simp only [jlit, jneg, jadd, jsub, jmul]; congr 1 <;> omega) | (congr 1 <;> omega)) (ey : y = jI q := by first | rfl | assumption | (simp only [jlit, jneg, jadd, jsub, jmul]; done) | (simp only [jlit, jneg, jadd, jsub, jmul]; congr 1 <;> omega) | (congr 1 <;> omega)) : MW l G d mX12_copyRow [.ref a, .int x, .ref b, .int y] σ Q := by
  have key : ∀ (n i : Nat) (τ : Mm) (u : Int32), i + n = 494 → u = jI i → τ.2 = σ.2 → (∀ c, c ≠ b → τ.1 c = σ.1 c) → (∀ j, τ.1 b j = if q ≤ j ∧ j < q + i then σ.1 a (p + (j - q)) else σ.1 b j) → Wp l G d mX12_copyRow 3 [(0, .ref a), (1, .int x), (2, .ref b), (3, .int y), (4, .int u)] [] τ Q := by
    intro n
    induction n with
    | zero =>
      intro i τ u hn hu e1 e2 e3
      obtain rfl : i = 494 := by omega
      refine wX12_copyRow [] 40 ?_
      refine brle 494 ((494 : Nat) : Int) (fun _ => ?_) (fun z => by omega) rfl hu
      exact hq τ e1 e2 e3
    | succ n ih =>
      intro i τ u hn hu e1 e2 e3
      subst hu
      have ea : τ.1 a (p + i) = σ.1 a (p + i) := by rw [e2 a hab]
      refine wX12_copyRow [(3, [0, 1, 2, 3, 4])] 40 ?_
      refine brle 494 i (fun z => by omega) (fun _ => ?_)
      refine ldI (lenI a) (p + i) ea ?_ (hi := by rw [ex, jadd]; rfl)
      refine stI (lenI b) (q + i) ?_ (hi := by rw [ey, jadd]; rfl)
      refine ih (i + 1) _ _ (by omega) (by first | rfl | assumption | (simp only [jlit, jneg, jadd, jsub, jmul]; done) | (simp only [jlit, jneg, jadd, jsub, jmul]; congr 1 <;> omega) | (congr 1 <;> omega)) e1 (fun c hc => by rw [uI_n hc]; exact e2 c hc) (fun j => ?_)
      by_cases ej : j = q + i
      · subst ej
        rw [uI_at, if_pos (by omega), show p + (q + i - q) = p + i by omega]
      · rw [uI_ne (Or.inr ej), e3 j]
        by_cases z : q ≤ j ∧ j < q + i
        · rw [if_pos z, if_pos (by omega)]
        · rw [if_neg z, if_neg (by omega)]
  refine vX12_copyRow [(3, [0, 1, 2, 3, 4])] 40 ?_
  exact key 494 0 σ _ rfl rfl rfl (fun _ _ => rfl) (fun j => by rw [if_neg (by omega)])
/-- what stops an act: -1 nothing -/
def wWhy (ru : Nat → Int) (W : Wk) (k a b c : Int) : Int :=
  if W.f 6 = 1 then 0
  else if k = 2 ∨ k = 3 then (if W.f 4 ≠ 0 then 2 else if (ru 9 ≤ W.f 0 ∧ W.f 0 + ru 10 < ru 1) ∧ (k = 2 ∨ 0 < W.f 3) then -1 else 3)
  else if k = 4 then (if W.f 4 = 0 then 2 else -1)
  else if k = 5 then (if ¬ (W.f 0 + 1 ≤ a ∧ a ≤ ru 1 - 1) then 0 else if ¬ (0 ≤ b ∧ b ≤ 9999) then 1 else if W.am a.toNat = b then 2 else -1)
  else if k = 6 then (if ¬ ((0 ≤ a ∧ a < ru 1 ∧ 0 ≤ b ∧ b ≤ a) ∧ (W.f 0 ≤ a ∧ W.f 1 ≤ b ∧ b - W.f 1 ≤ a - W.f 0)) then 0 else if ¬ (0 ≤ c ∧ c ≤ 999) then 1 else if W.ra a.toNat b.toNat = c then 2 else -1)
  else -1
/-- a row in its bounds -/
def WB (ru : Nat → Int) (W : Wk) : Prop := (0 ≤ W.f 1 ∧ W.f 1 ≤ W.f 0 ∧ W.f 0 ≤ ru 1) ∧ (0 ≤ W.f 2 ∧ W.f 2 ≤ 999) ∧ (0 ≤ W.f 3 ∧ W.f 3 ≤ 2) ∧ (0 ≤ W.f 4 ∧ W.f 4 ≤ 2) ∧ (W.f 6 = 0 ∨ W.f 6 = 1) ∧ (W.f 6 = 0 → W.f 0 < ru 1) ∧ (W.f 4 ≠ 0 → W.f 6 = 0 ∧ 1 ≤ W.f 5 ∧ W.f 5 ≤ ru 10 ∧ W.f 0 + W.f 5 < ru 1 ∧ (W.f 4 = 2 → 1 ≤ W.f 3)) ∧ (∀ j, 0 ≤ W.am j ∧ W.am j ≤ 9999) ∧ (∀ t h, 0 ≤ W.ra t h ∧ W.ra t h ≤ 999) ∧ (∀ t h, 0 ≤ W.de t h ∧ W.de t h ≤ 2)
theorem c_stops {x y z u : Int32} (k a b c : Int) (hw : Wr w) (hI : σ.1 98 17 = 1) (hE : ME σ ru) (hM : Mr σ ru w W) (hs : σ.1 98 27 = 0) (hB : WB ru W) (hk : 0 ≤ k ∧ k ≤ 9) (ra : R31 a) (rb : R31 b) (rc : R31 c) (hq : Q (some (.int (jI (wWhy ru W k a b c)))) σ) (ex : x = jI k := by first | rfl | assumption | (simp only [jlit, jneg, jadd, jsub, jmul]; done) | (simp only [jlit, jneg, jadd, jsub, jmul]; congr 1 <;> omega) | (congr 1 <;> omega)) (ey : y = jI a := by first | rfl | assumption | (simp only [jlit, jneg, jadd, jsub, jmul]; done) | (simp only [jlit, jneg, jadd, jsub, jmul]; congr 1 <;> omega) | (congr 1 <;> omega)) (ez : z = jI b := by first | rfl | assumption | (simp only [jlit, jneg, jadd, jsub, jmul]; done) | (simp only [jlit, jneg, jadd, jsub, jmul]; congr 1 <;> omega) | (congr 1 <;> omega)) (eu : u = jI c := by first | rfl | assumption | (simp only [jlit, jneg, jadd, jsub, jmul]; done) | (simp only [jlit, jneg, jadd, jsub, jmul]; congr 1 <;> omega) | (congr 1 <;> omega)) : MW l G (d + 2) mX12_stops [.ref 98, .ref w, .int x, .int y, .int z, .int u] σ Q := by
  have hr := hE.1
  have hr' := hr
  unfold RB at hr'
  have hl := hw.len
  obtain ⟨⟨b1, b2, b3⟩, bc, b4, b5, b6, b7, b8, bam, bra, bde⟩ := hB
  have xk : x.toInt = k := by rw [ex]; exact jI_T (by omega)
  unfold wWhy at hq
  refine vX12_stops [] 120 ?_
  refine c_isOver hw hI (hM.1 6 (by omega)) b6 ?_
  refine brz inferInstance (fun h6 => ?_) (fun h6 => ?_)
  · rw [if_neg h6] at hq
    have notice : (k = 2 ∨ k = 3) → (if W.f 4 ≠ 0 then (2 : Int) else if (ru 9 ≤ W.f 0 ∧ W.f 0 + ru 10 < ru 1) ∧ (k = 2 ∨ 0 < W.f 3) then -1 else 3) = (if W.f 6 = 1 then 0 else wWhy ru W k a b c) := fun hk2 => by unfold wWhy; rw [if_neg h6, if_neg h6, if_pos hk2]
    refine ⟨⟨fun e => ?_, fun e => ?_, fun e => ?_, fun e => ?_, fun e => ?_, trivial⟩, fun e => ?_⟩
    · have e' : k = 2 := by omega
      rw [if_pos (Or.inl e')] at hq
      refine ldI (lenI w) 4 (hM.1 4 (by omega)) ?_
      refine breq (W.f 4) 0 (fun h4 => ?_) (fun h4 => ?_)
      · rw [if_neg (by omega)] at hq
        refine ldI (lenI w) 3 (hM.1 3 (by omega)) ?_
        refine ldI (lenI w) 0 (hM.1 0 (by omega)) ?_
        refine c_may (k - 1) (W.f 3) (W.f 0) hr hE.2 (by omega) (by omega) (by omega) ?_ (by rw [ex, jlit, jsub])
        refine brz inferInstance (fun hm => ?_) (fun hm => ?_)
        · rw [if_neg (by omega)] at hq
          exact hq
        · rw [if_pos (by omega)] at hq
          exact hq
      · rw [if_pos h4] at hq
        exact hq
    · have e' : k = 3 := by omega
      rw [if_pos (Or.inr e')] at hq
      refine ldI (lenI w) 4 (hM.1 4 (by omega)) ?_
      refine breq (W.f 4) 0 (fun h4 => ?_) (fun h4 => ?_)
      · rw [if_neg (by omega)] at hq
        refine ldI (lenI w) 3 (hM.1 3 (by omega)) ?_
        refine ldI (lenI w) 0 (hM.1 0 (by omega)) ?_
        refine c_may (k - 1) (W.f 3) (W.f 0) hr hE.2 (by omega) (by omega) (by omega) ?_ (by rw [ex, jlit, jsub])
        refine brz inferInstance (fun hm => ?_) (fun hm => ?_)
        · rw [if_neg (by omega)] at hq
          exact hq
        · rw [if_pos (by omega)] at hq
          exact hq
      · rw [if_pos h4] at hq
        exact hq
    · have e' : k = 4 := by omega
      rw [if_neg (by omega), if_pos e'] at hq
      refine ldI (lenI w) 4 (hM.1 4 (by omega)) ?_
      refine breq (W.f 4) 0 (fun h4 => ?_) (fun h4 => ?_)
      · rw [if_pos h4] at hq
        exact hq
      · rw [if_neg h4] at hq
        exact hq
    · have e' : k = 5 := by omega
      rw [if_neg (by omega), if_neg (by omega), if_pos e'] at hq
      refine ldI (lenI w) 0 (hM.1 0 (by omega)) ?_
      refine ldI 14 1 (hE.2 1 (by omega)) ?_
      refine c_isIn a (W.f 0 + 1) (ru 1 - 1) ?_ (by rw [ey]; exact jI_L ra) (by rw [jlit, jadd]; exact jI_L (by omega)) (by rw [jlit, jsub]; exact jI_L (by omega))
      refine brz inferInstance (fun h1 => ?_) (fun h1 => ?_)
      · rw [if_pos h1] at hq
        exact hq
      · rw [if_neg (by omega)] at hq
        refine c_isIn b 0 9999 ?_ (by rw [ez]; exact jI_L rb) rfl rfl
        refine brz inferInstance (fun h2 => ?_) (fun h2 => ?_)
        · rw [if_pos h2] at hq
          exact hq
        · rw [if_neg (by omega)] at hq
          have ha := bam a.toNat
          have hta : ((a.toNat : Nat) : Int) = a := Int.toNat_of_nonneg (by omega)
          refine ldI (lenI w) (12 + a.toNat) (hM.2.1 a.toNat (by omega)) ?_ (hi := by rw [ey, jlit, jadd]; congr 1; push_cast; omega)
          refine breq (W.am a.toNat) b (fun h3 => ?_) (fun h3 => ?_) rfl ez
          · rw [if_pos h3] at hq
            exact hq
          · rw [if_neg h3] at hq
            exact hq
    · have e' : k = 6 := by omega
      rw [if_neg (by omega), if_neg (by omega), if_neg (by omega), if_pos e'] at hq
      refine c_isNode a b hI hE ra rb ?_ ey ez
      refine brz inferInstance (fun h1 => ?_) (fun h1 => ?_)
      · rw [if_pos (by omega)] at hq
        exact hq
      · refine c_canCome (W := W) a b hw (hM.1 0 (by omega)) (hM.1 1 (by omega)) (by omega) (by omega) (by omega) (by omega) ?_ ey ez
        refine brz inferInstance (fun h2 => ?_) (fun h2 => ?_)
        · rw [if_pos (by omega)] at hq
          exact hq
        · rw [if_neg (by omega)] at hq
          refine c_isIn c 0 999 ?_ (by rw [eu]; exact jI_L rc) rfl rfl
          refine brz inferInstance (fun h3 => ?_) (fun h3 => ?_)
          · rw [if_pos h3] at hq
            exact hq
          · rw [if_neg (by omega)] at hq
            have hta : ((a.toNat : Nat) : Int) = a := Int.toNat_of_nonneg (by omega)
            have htb : ((b.toNat : Nat) : Int) = b := Int.toNat_of_nonneg (by omega)
            have hra := bra a.toNat b.toNat
            refine c_rateOf a.toNat b.toNat (hM.PM hE hw hs) (by omega) (by omega) ?_ (by rw [ey, hta]) (by rw [ez, htb])
            refine breq (W.ra a.toNat b.toNat) c (fun h4 => ?_) (fun h4 => ?_) rfl eu
            · rw [if_pos h4] at hq
              exact hq
            · rw [if_neg h4] at hq
              exact hq
    · rw [if_neg (by omega), if_neg (by omega), if_neg (by omega), if_neg (by omega)] at hq
      exact hq
  · rw [if_pos h6] at hq
    exact hq
end MC
