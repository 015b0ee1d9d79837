-- masses: the class
theorem mP_out (ru : Nat → Int) (W : Wk) (k : Nat) (a : Nat → Int32) (H h : Nat) (q : H < h) : mP ru W k a H h = 0 := by
  unfold mP
  rw [if_neg (by omega), if_neg (by omega)]
  rfl
theorem mP_low (ru : Nat → Int) (W : Wk) (k h : Nat) : mP ru W k (mA ru W k) W.h h = 0 := by
  unfold mP
  by_cases q : 1 ≤ h ∧ h - 1 < W.h
  · rw [if_pos q, (mI_0 (mA_0 ru W k (h - 1) (by omega))).1]
    by_cases q2 : h < W.h
    · rw [if_pos q2, (mI_0 (mA_0 ru W k h (by omega))).2]
      rfl
    · rw [if_neg q2]
      rfl
  · rw [if_neg q]
    by_cases q2 : h < W.h
    · rw [if_pos q2, (mI_0 (mA_0 ru W k h (by omega))).2]
      rfl
    · rw [if_neg q2]
      rfl
theorem mA_sum (ru : Nat → Int) (W : Wk) (k : Nat) : ∀ n, rowS (mA ru W (k + 1)) (n + 1) = rowS (gD ru W 0 k) n + mD ru W k (mA ru W k) n
  | 0 => by
    show 0 + mA ru W (k + 1) 0 = 0 + _
    congr 1
    show mP ru W k (mA ru W k) (0 + 1) 0 = _
    unfold mP
    rw [if_neg (by omega), if_pos (by omega)]
    simp
  | n + 1 => by
    show rowS (mA ru W (k + 1)) (n + 1) + mA ru W (k + 1) (n + 1) = rowS (gD ru W 0 k) n + gD ru W 0 k n + mD ru W k (mA ru W k) (n + 1)
    have e1 : mA ru W (k + 1) (n + 1) = mI ru W k (mA ru W k) n + mD ru W k (mA ru W k) (n + 1) := by
      show mP ru W k (mA ru W k) (n + 1 + 1) (n + 1) = _
      unfold mP
      rw [if_pos (by omega), if_pos (by omega), show n + 1 - 1 = n by omega]
    have e2 : gD ru W 0 k n = mD ru W k (mA ru W k) n + mI ru W k (mA ru W k) n := by
      unfold gD mD mI
      split
      · rw [Int32.sub_add_cancel]
      · rfl
    rw [mA_sum ru W k n, e1, e2]
    simp only [Int32.add_assoc]
def PF (σ : Mm) (ru : Nat → Int) (W : Wk) : Prop := ∀ j h, ((W.t + j : Nat) : Int) ≤ ru 1 → h ≤ W.t + j → σ.1 97 (nd (W.t + j) h) = mA ru W j h
def PI (σ : Mm) (ru : Nat → Int) (W : Wk) (k H : Nat) : Prop :=
  (∀ j h, j ≤ k → h ≤ W.t + j → σ.1 97 (nd (W.t + j) h) = mA ru W j h) ∧
  (∀ h, h ≤ W.t + k + 1 → σ.1 97 (nd (W.t + k + 1) h) = mP ru W k (mA ru W k) H h) ∧
  (∀ t h : Nat, W.t + k + 1 < t → (t : Int) ≤ ru 1 → h ≤ t → σ.1 97 (nd t h) = 0)
section KFl
variable {l : Launch} {G : GT} {d : Nat} {σ : Mm} {Q : Po} {ru : Nat → Int} {W : Wk}
theorem k_pour (hK : KQ σ ru W) (h6 : W.f 6 = 0) (hN : NtA σ 31 ru W W.ra none) (hq : ∀ τ : Mm, (∀ c, c ≠ 97 → τ.1 c = σ.1 c) → τ.2 = σ.2 → PF τ ru W → Q none τ) : MW l G (d + 1) mX1_pour [.ref 96, .ref 2, .ref 31] σ Q := by
  have h12 := hK.ru
  have hRC := hK.2.1.1
  obtain ⟨hr3, r2, ht, hh, hht, _, h6t, bc⟩ := hK.r
  have hT := h6t h6
  have hnn := nd_lt2 (t := W.t) (h := W.h) (by omega) hht
  have hdeed : ∀ τ : Mm, (∀ c, c ≠ 97 → τ.1 c = σ.1 c) → ∀ t h : Nat, (t : Int) < ru 1 → h ≤ t → τ.1 34 (nd t h) = jI (wBest ru W t h) := fun τ e t h q1 q2 => by
    rw [e 34 (by decide)]
    exact (hN t h q1 q2).2.2.2.1
  have inner : ∀ (n k i : Nat) (τ : Mm) (a f u : Int32), i + n = k + 1 → ((W.t + k : Nat) : Int) < ru 1 → (∀ c, c ≠ 97 → τ.1 c = σ.1 c) → τ.2 = σ.2 → PI τ ru W k (W.h + i) → a = jI ((W.t + k : Nat) : Int) → f = jI (nd (W.t + k) W.h : Nat) → u = jI (nd (W.t + k) (W.h + i) : Nat) → (∀ (ρ : Mm) u', (∀ c, c ≠ 97 → ρ.1 c = σ.1 c) → ρ.2 = σ.2 → PI ρ ru W k (W.h + (k + 1)) → Wp l G (d + 1) mX1_pour 151 [(0, .ref 96), (1, .ref 2), (2, .ref 31), (3, .int (jI (W.t : Int))), (4, .int (jI (W.h : Int))), (5, .int a), (6, .int f), (7, .int u')] [] ρ Q) → Wp l G (d + 1) mX1_pour 57 [(0, .ref 96), (1, .ref 2), (2, .ref 31), (3, .int (jI (W.t : Int))), (4, .int (jI (W.h : Int))), (5, .int a), (6, .int f), (7, .int u)] [] τ Q := by
    intro n k
    induction n with
    | zero =>
      intro i τ a f u hn hk e1 e2 hI ha hf hu go
      have hb := nd_lt (t := W.t + k) (h := W.h) (by omega) (by omega)
      have hb2 : nd (W.t + k) (W.h + i) = nd (W.t + k) W.h + i := by unfold nd; omega
      refine wX1_pour [(151, [0, 1, 2, 3, 4, 5, 6, 7])] 60 ?_
      refine brlt ((nd (W.t + k) W.h : Nat) + ((W.t + k : Nat) : Int) - W.t) (nd (W.t + k) (W.h + i) : Nat) (fun _ => ?_) (fun z => by omega) (hx := by rw [hf, ha, jadd, jsub]) (hy := hu)
      rw [show i = k + 1 by omega] at hI
      exact go τ u e1 e2 hI
    | succ n ih =>
      intro i τ a f u hn hk e1 e2 hI ha hf hu go
      have hb := nd_lt2 (t := W.t + k) (h := W.h + i) (by omega) (by omega)
      have hb2 : nd (W.t + k) (W.h + i) = nd (W.t + k) W.h + i := by unfold nd; omega
      have hu1 := nd_up (W.t + k) (W.h + i)
      have hd1 := nd_dn (W.t + k) (W.h + i)
      have hb3 := nd_lt (t := W.t + k + 1) (h := W.h + i + 1) (by omega) (by omega)
      have bb := wBest_in ru W (W.t + k) (W.h + i)
      obtain ⟨i1, i2, i3⟩ := hI
      have em := i1 k (W.h + i) (Nat.le_refl _) (by omega)
      have hstep : nd (W.t + k) (W.h + (i + 1)) = nd (W.t + k) (W.h + i) + 1 := by unfold nd; omega
      refine wX1_pour [(57, [0, 1, 2, 3, 4, 5, 6, 7])] 60 ?_
      refine brlt ((nd (W.t + k) W.h : Nat) + ((W.t + k : Nat) : Int) - W.t) (nd (W.t + k) (W.h + i) : Nat) (fun z => by omega) (fun _ => ?_) (hx := by rw [hf, ha, jadd, jsub]) (hy := hu)
      refine ldI 91 (nd (W.t + k) (W.h + i)) (hdeed τ e1 (W.t + k) (W.h + i) hk (by omega)) ?_ (hi := hu)
      refine breq (wBest ru W (W.t + k) (W.h + i)) 0 (fun b0 => ?_) (fun b0 => ?_) (hx := rfl) (hy := rfl)
      · refine ldI 91 (nd (W.t + k) (W.h + i)) em ?_ (hi := hu)
        refine ldI 14 6 (show _ = jI (ru 6) by rw [e1 1 (by decide)]; exact hRC.2 6 (by omega)) ?_
        refine And.intro (by decide) ?_
        refine ldI 91 (nd (W.t + k + 1) (W.h + i + 1)) (i2 (W.h + i + 1) (by omega)) ?_ (hi := by rw [hu, ha]; first | rfl | assumption | (simp only [jlit, jneg, jadd, jsub, jmul]; done) | (simp only [jlit, jneg, jadd, jsub, jmul]; congr 1 <;> omega) | (congr 1 <;> omega))
        refine stI 91 (nd (W.t + k + 1) (W.h + i + 1)) ?_ (hi := by rw [hu, ha]; first | rfl | assumption | (simp only [jlit, jneg, jadd, jsub, jmul]; done) | (simp only [jlit, jneg, jadd, jsub, jmul]; congr 1 <;> omega) | (congr 1 <;> omega))
        refine ldI 91 (nd (W.t + k + 1) (W.h + i)) (show _ = mP ru W k (mA ru W k) (W.h + i) (W.h + i) by rw [uI_ne (Or.inr (by omega))]; exact i2 (W.h + i) (by omega)) ?_ (hi := by rw [hu, ha]; first | rfl | assumption | (simp only [jlit, jneg, jadd, jsub, jmul]; done) | (simp only [jlit, jneg, jadd, jsub, jmul]; congr 1 <;> omega) | (congr 1 <;> omega))
        refine ldI 91 (nd (W.t + k) (W.h + i)) (show _ = mA ru W k (W.h + i) by rw [uI_ne (Or.inr (by omega))]; exact em) ?_ (hi := hu)
        refine stI 91 (nd (W.t + k + 1) (W.h + i)) ?_ (hi := by rw [hu, ha]; first | rfl | assumption | (simp only [jlit, jneg, jadd, jsub, jmul]; done) | (simp only [jlit, jneg, jadd, jsub, jmul]; congr 1 <;> omega) | (congr 1 <;> omega))
        have eI : mI ru W k (mA ru W k) (W.h + i) = mU ru (mA ru W k (W.h + i)) := by unfold mI; rw [if_pos b0]
        have eD : mD ru W k (mA ru W k) (W.h + i) = mA ru W k (W.h + i) - mU ru (mA ru W k (W.h + i)) := by unfold mD; rw [if_pos b0]
        refine ih (i + 1) _ a f _ (by omega) hk (fun c hc => by rw [uI_n hc, uI_n hc]; exact e1 c hc) e2 ⟨fun j h q1 q2 => ?_, fun h q2 => ?_, fun t h q1 q2 q3 => ?_⟩ ha hf (by rw [hstep, hu]; first | rfl | assumption | (simp only [jlit, jneg, jadd, jsub, jmul]; done) | (simp only [jlit, jneg, jadd, jsub, jmul]; congr 1 <;> omega) | (congr 1 <;> omega)) go
        · have n1 : nd (W.t + j) h ≠ nd (W.t + k + 1) (W.h + i) := fun z => by have := nd_inj q2 (by omega) z; omega
          have n2 : nd (W.t + j) h ≠ nd (W.t + k + 1) (W.h + i + 1) := fun z => by have := nd_inj q2 (by omega) z; omega
          rw [uI_ne (Or.inr n1), uI_ne (Or.inr n2)]
          exact i1 j h q1 q2
        · rw [show W.h + (i + 1) = W.h + i + 1 by omega, mP_s]
          by_cases z1 : h = W.h + i + 1
          · subst z1
            rw [uI_ne (Or.inr (by omega)), uI_at, if_pos rfl, eI]
            rfl
          · rw [if_neg z1]
            have n2 : nd (W.t + k + 1) h ≠ nd (W.t + k + 1) (W.h + i + 1) := fun z => by have := nd_inj q2 (by omega) z; omega
            by_cases z2 : h = W.h + i
            · subst z2
              rw [uI_at, if_pos rfl, eD]
              rfl
            · have n1 : nd (W.t + k + 1) h ≠ nd (W.t + k + 1) (W.h + i) := fun z => by have := nd_inj q2 (by omega) z; omega
              rw [if_neg z2, uI_ne (Or.inr n1), uI_ne (Or.inr n2)]
              exact i2 h q2
        · have n1 : nd t h ≠ nd (W.t + k + 1) (W.h + i) := fun z => by have := nd_inj q3 (by omega) z; omega
          have n2 : nd t h ≠ nd (W.t + k + 1) (W.h + i + 1) := fun z => by have := nd_inj q3 (by omega) z; omega
          rw [uI_ne (Or.inr n1), uI_ne (Or.inr n2)]
          exact i3 t h q1 q2 q3
      · refine ih (i + 1) τ a f _ (by omega) hk e1 e2 ⟨i1, fun h q2 => ?_, i3⟩ ha hf (by rw [hstep, hu]; first | rfl | assumption | (simp only [jlit, jneg, jadd, jsub, jmul]; done) | (simp only [jlit, jneg, jadd, jsub, jmul]; congr 1 <;> omega) | (congr 1 <;> omega)) go
        rw [show W.h + (i + 1) = W.h + i + 1 by omega, mP_s, i2 h q2]
        have z1 : mI ru W k (mA ru W k) (W.h + i) = 0 := by unfold mI; rw [if_neg b0]
        have z2 : mD ru W k (mA ru W k) (W.h + i) = 0 := by unfold mD; rw [if_neg b0]
        rw [z1, z2]
        split
        · simp
        · split
          · simp
          · rfl
  have outer : ∀ (n k : Nat) (τ : Mm) (a : Int32), W.t + k + n = (ru 1).toNat → (∀ c, c ≠ 97 → τ.1 c = σ.1 c) → τ.2 = σ.2 → (∀ j h, j ≤ k → h ≤ W.t + j → τ.1 97 (nd (W.t + j) h) = mA ru W j h) → (∀ t h : Nat, W.t + k < t → (t : Int) ≤ ru 1 → h ≤ t → τ.1 97 (nd t h) = 0) → a = jI ((W.t + k : Nat) : Int) → Wp l G (d + 1) mX1_pour 33 [(0, .ref 96), (1, .ref 2), (2, .ref 31), (3, .int (jI (W.t : Int))), (4, .int (jI (W.h : Int))), (5, .int a)] [] τ Q := by
    intro n
    induction n with
    | zero =>
      intro k τ a hn e1 e2 i1 i3 ha
      refine wX1_pour [] 60 ?_
      refine ldI 14 1 (show _ = jI (ru 1) by rw [e1 1 (by decide)]; exact h12.1) ?_
      refine brle (ru 1) ((W.t + k : Nat) : Int) (fun _ => ?_) (fun z => by omega)
      exact hq τ e1 e2 (fun j h q1 q2 => i1 j h (by omega) q2)
    | succ n ih =>
      intro k τ a hn e1 e2 i1 i3 ha
      refine wX1_pour [(57, [0, 1, 2, 3, 4, 5, 6, 7])] 60 ?_
      refine ldI 14 1 (show _ = jI (ru 1) by rw [e1 1 (by decide)]; exact h12.1) ?_
      refine brle (ru 1) ((W.t + k : Nat) : Int) (fun z => by omega) (fun _ => ?_)
      refine k_nodeOf (W.t + k) W.h ?_
      refine inner (k + 1) k 0 τ a _ _ (by omega) (by omega) e1 e2 ⟨i1, fun h q2 => ?_, fun t h q1 q2 q3 => i3 t h (by omega) q2 q3⟩ ha rfl rfl (fun ρ u' p1 p2 p3 => ?_)
      · rw [show W.h + 0 = W.h by omega, mP_low]
        exact i3 _ _ (by omega) (by omega) q2
      · obtain ⟨j1, j2, j3⟩ := p3
        refine wX1_pour [(33, [0, 1, 2, 3, 4, 5])] 60 ?_
        refine ih (k + 1) ρ _ (by omega) p1 p2 (fun j h q1 q2 => ?_) (fun t h q1 q2 q3 => j3 t h (by omega) q2 q3) (by rw [ha]; first | rfl | assumption | (simp only [jlit, jneg, jadd, jsub, jmul]; done) | (simp only [jlit, jneg, jadd, jsub, jmul]; congr 1 <;> omega) | (congr 1 <;> omega))
        by_cases z : j = k + 1
        · subst z
          rw [show W.t + (k + 1) = W.t + k + 1 by omega, j2 h (by omega)]
          by_cases z2 : h ≤ W.h + (k + 1)
          · exact mP_all ru W k (W.h + (k + 1)) h (by omega) z2
          · rw [mP_out _ _ _ _ _ _ (by omega), mA_0 ru W (k + 1) h (by omega)]
        · exact j1 j h (by omega) q2
  refine vX1_pour [(33, [0, 1, 2, 3, 4, 5])] 60 ?_
  refine ldI 115 0 (show _ = jI (W.t : Int) by rw [ht]; exact hK.1.1 0 (by omega)) ?_
  refine ldI 115 1 (show _ = jI (W.h : Int) by rw [hh]; exact hK.1.1 1 (by omega)) ?_
  refine c_fill2 (a := 97) (by decide) (by decide) (by decide) (fun τ g1 g2 g3 => ?_)
  refine k_nodeOf W.t W.h ?_
  refine stI 91 (nd W.t W.h) ?_
  have z0 : ∀ t h : Nat, (t : Int) ≤ ru 1 → h ≤ t → (nd t h ≠ nd W.t W.h) → (uI τ 97 (nd W.t W.h) 1000000000).1 97 (nd t h) = 0 := fun t h q1 q2 q3 => by
    have := nd_lt (t := t) (h := h) (by omega) q2
    rw [uI_ne (Or.inr q3), g3, if_pos (show nd t h < lenI 97 from this)]
  refine outer ((ru 1).toNat - W.t) 0 _ _ (by omega) (fun c hc => by rw [uI_n hc]; exact g2 c hc) g1 (fun j h q1 q2 => ?_) (fun t h q1 q2 q3 => z0 t h q2 q3 (fun z => by have := nd_inj q3 hht z; omega)) rfl
  obtain rfl : j = 0 := by omega
  show (uI τ 97 (nd W.t W.h) 1000000000).1 97 (nd W.t h) = (if h = W.h then (1000000000 : Int32) else 0)
  by_cases z : h = W.h
  · rw [if_pos z, z, uI_at]
  · rw [if_neg z]
    exact z0 W.t h (by omega) q2 (fun w => z (nd_inj q2 hht w).2)
theorem k_stopped {y z : Int32} (n : Nat) (dd : Int) (hP : PF σ ru W) (hN : NtA σ 31 ru W W.ra none) (h12 : ru 1 ≤ 12) (hn : (n : Int) < ru 1) (h0 : W.t ≤ n) (hdd : 0 ≤ dd ∧ dd ≤ 2) (hq : Q (some (.int (rowS (gD ru W dd (n - W.t)) (n + 1)))) σ) (ey : y = jI (n : Int) := by first | rfl | assumption | (simp only [jlit, jneg, jadd, jsub, jmul]; done) | (simp only [jlit, jneg, jadd, jsub, jmul]; congr 1 <;> omega) | (congr 1 <;> omega)) (ez : z = jI dd := by first | rfl | assumption | (simp only [jlit, jneg, jadd, jsub, jmul]; done) | (simp only [jlit, jneg, jadd, jsub, jmul]; congr 1 <;> omega) | (congr 1 <;> omega)) : MW l G (d + 1) mX1_stopped [.ref 96, .ref 31, .int y, .int z] σ Q := by
  have et : W.t + (n - W.t) = n := by omega
  have key : ∀ (m h : Nat) (u v : Int32), h + m = n + 1 → u = rowS (gD ru W dd (n - W.t)) h → v = jI (h : Int) → Wp l G (d + 1) mX1_stopped 6 [(0, .ref 96), (1, .ref 31), (2, .int y), (3, .int z), (4, .int u), (5, .int v)] [] σ Q := by
    intro m
    induction m with
    | zero =>
      intro h u v hm hu hv
      refine wX1_stopped [] 60 ?_
      refine brlt (n : Int) (h : Int) (fun _ => ?_) (fun z => by omega) (hx := ey) (hy := hv)
      rw [show n + 1 = h by omega, ← hu] at hq
      exact hq
    | succ m ih =>
      intro h u v hm hu hv
      have em := hP (n - W.t) h (by omega) (by omega)
      rw [et] at em
      have hb := nd_lt2 (t := n) (h := h) (by omega) (by omega)
      have bb := wBest_in ru W n h
      have eg : gD ru W dd (n - W.t) h = if wBest ru W n h = dd then mA ru W (n - W.t) h else 0 := by
        unfold gD
        rw [et]
      refine wX1_stopped [(6, [0, 1, 2, 3, 4, 5])] 60 ?_
      refine brlt (n : Int) (h : Int) (fun z => by omega) (fun _ => ?_) (hx := ey) (hy := hv)
      refine k_nodeOf n h ?_ ey hv
      refine ldI 91 (nd n h) (show _ = jI (wBest ru W n h) from (hN n h hn (by omega)).2.2.2.1) ?_
      refine breq (wBest ru W n h) dd (fun q => ?_) (fun q => ?_) (hx := rfl) (hy := ez)
      · refine ldI 91 (nd n h) em ?_
        refine ih (h + 1) _ _ (by omega) ?_ (by rw [hv]; first | rfl | assumption | (simp only [jlit, jneg, jadd, jsub, jmul]; done) | (simp only [jlit, jneg, jadd, jsub, jmul]; congr 1 <;> omega) | (congr 1 <;> omega))
        show _ = rowS (gD ru W dd (n - W.t)) h + gD ru W dd (n - W.t) h
        rw [eg, if_pos q, hu]
      · refine ih (h + 1) _ _ (by omega) ?_ (by rw [hv]; first | rfl | assumption | (simp only [jlit, jneg, jadd, jsub, jmul]; done) | (simp only [jlit, jneg, jadd, jsub, jmul]; congr 1 <;> omega) | (congr 1 <;> omega))
        show _ = rowS (gD ru W dd (n - W.t)) h + gD ru W dd (n - W.t) h
        rw [eg, if_neg q, hu]
  refine vX1_stopped [(6, [0, 1, 2, 3, 4, 5])] 60 ?_
  exact key (n + 1) 0 _ _ (by omega) rfl rfl
theorem k_atTheEnd (hP : PF σ ru W) (h1 : σ.1 1 1 = jI (ru 1)) (h12 : 1 ≤ ru 1 ∧ ru 1 ≤ 12) (hT : (W.t : Int) < ru 1) (hht : W.h ≤ W.t) (hq : Q (some (.int (rowS (gD ru W 0 (nY ru W - 1)) (ru 1).toNat))) σ) : MW l G (d + 1) mX1_atTheEnd [.ref 96] σ Q := by
  have en : nY ru W = nY ru W - 1 + 1 := by unfold nY; omega
  have e : rowS (mA ru W (nY ru W)) ((ru 1).toNat + 1) = rowS (gD ru W 0 (nY ru W - 1)) (ru 1).toNat := by
    rw [en, mA_sum, (mI_0 (mA_0 ru W (nY ru W - 1) (ru 1).toNat (by unfold nY; omega))).2]
    simp
  rw [← e] at hq
  have et : W.t + nY ru W = (ru 1).toNat := by unfold nY; omega
  have key : ∀ (m h : Nat) (u v : Int32), h + m = (ru 1).toNat + 1 → u = rowS (mA ru W (nY ru W)) h → v = jI (h : Int) → Wp l G (d + 1) mX1_atTheEnd 11 [(0, .ref 96), (1, .int (jI (ru 1))), (2, .int u), (3, .int v)] [] σ Q := by
    intro m
    induction m with
    | zero =>
      intro h u v hm hu hv
      refine wX1_atTheEnd [] 60 ?_
      refine brlt (ru 1) (h : Int) (fun _ => ?_) (fun z => by omega) (hx := rfl) (hy := hv)
      rw [show (ru 1).toNat + 1 = h by omega, ← hu] at hq
      exact hq
    | succ m ih =>
      intro h u v hm hu hv
      have em := hP (nY ru W) h (by omega) (by omega)
      rw [et] at em
      have hb := nd_lt (t := (ru 1).toNat) (h := h) (by omega) (by omega)
      refine wX1_atTheEnd [(11, [0, 1, 2, 3])] 60 ?_
      refine brlt (ru 1) (h : Int) (fun z => by omega) (fun _ => ?_) (hx := rfl) (hy := hv)
      refine k_nodeOf (ru 1).toNat h ?_ (by congr 1; omega) hv
      refine ldI 91 (nd (ru 1).toNat h) em ?_
      refine ih (h + 1) _ _ (by omega) ?_ (by rw [hv]; first | rfl | assumption | (simp only [jlit, jneg, jadd, jsub, jmul]; done) | (simp only [jlit, jneg, jadd, jsub, jmul]; congr 1 <;> omega) | (congr 1 <;> omega))
      rw [hu]
      rfl
  refine vX1_atTheEnd [(11, [0, 1, 2, 3])] 60 ?_
  refine ldI 14 1 h1 ?_
  exact key ((ru 1).toNat + 1) 0 _ _ (by omega) rfl rfl
end KFl
