-- the tables of new loans, whole: the reference
section MLX
variable {l : Launch} {G : GT} {d : Nat} {σ : Mm} {Q : Po} {ru am : Nat → Int} {ra : Nat → Nat → Int} {w T : Nat}
theorem c_laysX {f c z : Int32} (pol : Option (Nat → Nat → Int)) (cp : Int) (R : Nat) (hP : PM σ w ru ra) (hw2 : w ∉ [112, 113, 114]) (ham0 : ∀ j, 0 ≤ am j) (ham : ∀ j, j < 13 → σ.1 w (12 + j) = jI (am j) ∧ am j ≤ 9999) (hT : lenJ T = 62640) (hR : R ≤ 2) (hc : 0 ≤ cp ∧ cp ≤ 999) (hD : ∀ de, pol = some de → DW σ w ru de) (ef : f = if pol.isSome = true then 1 else 0)
    (hq : ∀ τ : Mm, (∀ a, a ∉ [112, 113, 114] → τ.1 a = σ.1 a) → (∀ a, a ∉ [112, 113, 114] → a ≠ T → τ.2 a = σ.2 a) → LY τ ru am → (∀ r, r ≤ R → TB τ T ru r 0 0 (zco ru am ra pol r cp)) → (∀ r, r ≤ R → TN τ T ru r (zN ru am ra pol r)) → (∀ r, r < R → ∀ t h : Nat, (t : Int) < ru 1 → h ≤ t → ∀ i j : Nat, t ≤ i → (i : Int) < ru 1 → j ≤ i → τ.2 T (ix4 r (12 * t + h + 1) i j) = jL (zC ru am ra pol r (zcp ru ra t h) (zN ru am ra pol r) i j)) → Q none τ)
    (ec : c = jI cp := by first | rfl | assumption | (simp only [jlit, jneg, jadd, jsub, jmul]; done) | (simp only [jlit, jneg, jadd, jsub, jmul]; congr 1 <;> omega) | (congr 1 <;> omega)) (ez : z = jI R := by first | rfl | assumption | (simp only [jlit, jneg, jadd, jsub, jmul]; done) | (simp only [jlit, jneg, jadd, jsub, jmul]; congr 1 <;> omega) | (congr 1 <;> omega)) : MW l G (d + 9) mX12_lays [.ref 98, .ref w, .ref T, .int f, .int c, .int z] σ Q := by
  have hr := hP.1
  have hr' := hr
  unfold RB at hr'
  have hra : ∀ t h : Nat, (t : Int) < ru 1 → h ≤ t → 0 ≤ ra t h := fun t h q1 q2 => (hP.ra q1 q2).1
  have hpol : ∀ de, pol = some de → ∀ t h : Nat, (t : Int) < ru 1 → h ≤ t → 0 ≤ de t h ∧ de t h ≤ 2 := fun de e t h q1 q2 => (hD de e t h q1 q2).2
  refine vX12_lays [(8, [0, 1, 2, 3, 4, 5, 6])] 60 ?_
  refine c_laysYears hr hP.2.2.1 hP.2.1 hw2 ham0 ham (fun σ1 hF1 hL1 => ?_)
  have hP1 : PM σ1 w ru ra := hP.fr (hF1.1 101 (by decide)) (hF1.1 w hw2) (by rw [hF1.1 98 (by decide)])
  have hD1 : ∀ de, pol = some de → DW σ1 w ru de := fun de e t h q1 q2 => by rw [hF1.1 w hw2]; exact hD de e t h q1 q2
  let I : Mm → Nat → Prop := fun τ r => τ.1 = σ1.1 ∧ (∀ a, a ≠ T → τ.2 a = σ1.2 a) ∧ (∀ r', r' < r → ∀ t h : Nat, (t : Int) < ru 1 → h ≤ t → τ.2 T (ix4 r' 0 t h) = jL (zco ru am ra pol r' cp t h) ∧ (r' < R → ∀ i j : Nat, t ≤ i → (i : Int) < ru 1 → j ≤ i → τ.2 T (ix4 r' (12 * t + h + 1) i j) = jL (zC ru am ra pol r' (zcp ru ra t h) (zN ru am ra pol r') i j)))
  let I2 : Mm → Nat → Nat → Nat → Prop := fun τ r n k => I τ r ∧ ∀ t h : Nat, (t : Int) < ru 1 → h ≤ t → (t < n ∨ t = n ∧ h < k) → ∀ i j : Nat, t ≤ i → (i : Int) < ru 1 → j ≤ i → τ.2 T (ix4 r (12 * t + h + 1) i j) = jL (zC ru am ra pol r (zcp ru ra t h) (zN ru am ra pol r) i j)
  have facts : ∀ (τ : Mm) (r : Nat), I τ r → r ≤ R → PM τ w ru ra ∧ LY τ ru am ∧ TN τ T ru r (zN ru am ra pol r) ∧ (∀ de, pol = some de → DW τ w ru de) := by
    intro τ r hI hrR
    refine ⟨hP1.fr (by rw [hI.1]) (by rw [hI.1]) (by rw [hI.1]), hL1.fr (by rw [hI.1]) (by rw [hI.1]) (by rw [hI.1]), ?_, fun de e t h q1 q2 => by rw [hI.1]; exact hD1 de e t h q1 q2⟩
    intro q0 t h q1 q2
    obtain ⟨r', rfl⟩ : ∃ r', r = r' + 1 := ⟨r - 1, by omega⟩
    have b := zN_in (pol := pol) hr ham0 hra hpol (r' + 1) t h q1 q2
    refine ⟨(hI.2.2 r' (by omega) t h q1 q2).2 (by omega) t h (Nat.le_refl _) q1 q2, b.1, ?_⟩
    have : ((r' + 1 : Nat) : Int) ≤ 2 := by omega
    omega
  have nb : ∀ r, r ≤ R → ∀ t h : Nat, (t : Int) < ru 1 → h ≤ t → zN ru am ra pol r t h ≤ 1000000 := by
    intro r hrR t h q1 q2
    have b := zN_in (pol := pol) hr ham0 hra hpol r t h q1 q2
    omega
  -- the loan itself at level r
  have own : ∀ (r : Nat) (τ : Mm) (u v : Int32), r ≤ R → I τ r → (r < R → ∀ t h : Nat, (t : Int) < ru 1 → h ≤ t → ∀ i j : Nat, t ≤ i → (i : Int) < ru 1 → j ≤ i → τ.2 T (ix4 r (12 * t + h + 1) i j) = jL (zC ru am ra pol r (zcp ru ra t h) (zN ru am ra pol r) i j)) → u = jI r → (∀ τ' u', I τ' (r + 1) → u' = jI ((r + 1 : Nat) : Int) → Wp l G (d + 9) mX12_lays 8 [(0, .ref 98), (1, .ref w), (2, .ref T), (3, .int f), (4, .int c), (5, .int z), (6, .int u')] [] τ' Q) → Wp l G (d + 9) mX12_lays 87 [(0, .ref 98), (1, .ref w), (2, .ref T), (3, .int f), (4, .int c), (5, .int z), (6, .int u), (7, .int v)] [] τ Q := by
    intro r τ u v hrR hI hnew hu hgo
    obtain ⟨hP2, hL2, hN2, hD2⟩ := facts τ r hI hrR
    refine wX12_lays [(8, [0, 1, 2, 3, 4, 5, 6])] 60 ?_
    refine c_laysBy pol (zN ru am ra pol r) r 0 0 cp hP2 hL2 hT (by omega) (by omega) hc hN2 (fun _ t h q1 q2 => nb r hrR t h q1 q2) hD2 ef (fun τ' e1 e2 e3 e4 => ?_) hu rfl ec rfl
    subst hu
    refine hgo τ' _ ⟨e1.trans hI.1, fun a ha => (e2 a ha).trans (hI.2.1 a ha), fun r' hr1 t h q1 q2 => ?_⟩ (by first | rfl | assumption | (simp only [jlit, jneg, jadd, jsub, jmul]; done) | (simp only [jlit, jneg, jadd, jsub, jmul]; congr 1 <;> omega) | (congr 1 <;> omega))
    by_cases er : r' = r
    · subst er
      refine ⟨e4 t h (Nat.zero_le _) q1 q2, fun q i j y1 y2 y3 => ?_⟩
      rw [e3 _ (fun t' h' q3 q4 q5 e => by have := ix4_inj (by omega) (by omega) (by omega) (by omega) (by omega) (by omega) e; omega)]
      exact hnew q t h q1 q2 i j y1 y2 y3
    · have := hI.2.2 r' (by omega) t h q1 q2
      refine ⟨?_, fun q i j y1 y2 y3 => ?_⟩
      · rw [e3 _ (fun t' h' q3 q4 q5 e => by have := ix4_inj (by omega) (by omega) (by omega) (by omega) (by omega) (by omega) e; omega)]
        exact this.1
      · rw [e3 _ (fun t' h' q3 q4 q5 e => by have := ix4_inj (by omega) (by omega) (by omega) (by omega) (by omega) (by omega) e; omega)]
        exact this.2 q i j y1 y2 y3
  -- the new loans at level r < R
  have hs : ∀ (m r n k : Nat) (τ : Mm) (u v x : Int32), r < R → (n : Int) < ru 1 → k + m = n + 1 → I2 τ r n k → u = jI r → v = jI n → x = jI k → (∀ τ' v', I2 τ' r (n + 1) 0 → v' = jI ((n + 1 : Nat) : Int) → Wp l G (d + 9) mX12_lays 18 [(0, .ref 98), (1, .ref w), (2, .ref T), (3, .int f), (4, .int c), (5, .int z), (6, .int u), (7, .int v')] [] τ' Q) → Wp l G (d + 9) mX12_lays 39 [(0, .ref 98), (1, .ref w), (2, .ref T), (3, .int f), (4, .int c), (5, .int z), (6, .int u), (7, .int v), (8, .int x)] [] τ Q := by
    intro m
    induction m with
    | zero =>
      intro r n k τ u v x hrR hn hk hI hu hv hx hgo
      refine wX12_lays [(18, [0, 1, 2, 3, 4, 5, 6, 7])] 60 ?_
      refine brlt n k (fun _ => ?_) (fun q => by omega) hv hx
      subst hv
      exact hgo τ _ ⟨hI.1, fun t h q1 q2 q3 => hI.2 t h q1 q2 (by omega)⟩ (by first | rfl | assumption | (simp only [jlit, jneg, jadd, jsub, jmul]; done) | (simp only [jlit, jneg, jadd, jsub, jmul]; congr 1 <;> omega) | (congr 1 <;> omega))
    | succ m ih =>
      intro r n k τ u v x hrR hn hk hI hu hv hx hgo
      obtain ⟨hP2, hL2, hN2, hD2⟩ := facts τ r hI.1 (by omega)
      subst hx; subst hv
      refine wX12_lays [(39, [0, 1, 2, 3, 4, 5, 6, 7, 8])] 60 ?_
      refine brlt n k (fun q => by omega) (fun _ => ?_)
      refine c_node n k ?_
      refine c_newCoupon n k hP2 hn (by omega) ?_
      refine c_laysBy pol (zN ru am ra pol r) r (12 * n + k + 1) n (zcp ru ra n k) hP2 hL2 hT (by omega) (by omega) (zcp_in hr (hra n k hn (by omega))) hN2 (fun _ t h q1 q2 => nb r (by omega) t h q1 q2) hD2 ef (fun τ' e1 e2 e3 e4 => ?_) hu
      refine ih r n (k + 1) τ' u _ _ hrR hn (by omega) ⟨⟨e1.trans hI.1.1, fun a ha => (e2 a ha).trans (hI.1.2.1 a ha), fun r' hr1 t h q1 q2 => ?_⟩, fun t h q1 q2 q3 i j y1 y2 y3 => ?_⟩ hu rfl (by first | rfl | assumption | (simp only [jlit, jneg, jadd, jsub, jmul]; done) | (simp only [jlit, jneg, jadd, jsub, jmul]; congr 1 <;> omega) | (congr 1 <;> omega)) hgo
      · have := hI.1.2.2 r' hr1 t h q1 q2
        refine ⟨?_, fun q i j y1 y2 y3 => ?_⟩
        · rw [e3 _ (fun t' h' q3 q4 q5 e => by have := ix4_inj (by omega) (by omega) (by omega) (by omega) (by omega) (by omega) e; omega)]
          exact this.1
        · rw [e3 _ (fun t' h' q3 q4 q5 e => by have := ix4_inj (by omega) (by omega) (by omega) (by omega) (by omega) (by omega) e; omega)]
          exact this.2 q i j y1 y2 y3
      · by_cases e : t = n ∧ h = k
        · obtain ⟨rfl, rfl⟩ := e
          exact e4 i j y1 y2 y3
        · rw [e3 _ (fun t' h' q3' q4 q5 e' => by have := ix4_inj (by omega) (by omega) (by omega) (by omega) (by omega) (by omega) e'; omega)]
          exact hI.2 t h q1 q2 (by omega) i j y1 y2 y3
  have ts : ∀ (m r n : Nat) (τ : Mm) (u v : Int32), r < R → (n : Int) + m = ru 1 → I2 τ r n 0 → u = jI r → v = jI n → (∀ τ' u', I τ' (r + 1) → u' = jI ((r + 1 : Nat) : Int) → Wp l G (d + 9) mX12_lays 8 [(0, .ref 98), (1, .ref w), (2, .ref T), (3, .int f), (4, .int c), (5, .int z), (6, .int u')] [] τ' Q) → Wp l G (d + 9) mX12_lays 18 [(0, .ref 98), (1, .ref w), (2, .ref T), (3, .int f), (4, .int c), (5, .int z), (6, .int u), (7, .int v)] [] τ Q := by
    intro m
    induction m with
    | zero =>
      intro r n τ u v hrR hn hI hu hv hgo
      obtain ⟨hP2, hL2, hN2, hD2⟩ := facts τ r hI.1 (by omega)
      refine wX12_lays [(87, [0, 1, 2, 3, 4, 5, 6, 7])] 60 ?_
      refine ldI 14 1 (hP2.2.2.1 1 (by omega)) ?_
      refine brle (ru 1) n (fun _ => ?_) (fun q => by omega) rfl hv
      exact own r τ u v (by omega) hI.1 (fun _ t h q1 q2 => hI.2 t h q1 q2 (by omega)) hu hgo
    | succ m ih =>
      intro r n τ u v hrR hn hI hu hv hgo
      obtain ⟨hP2, hL2, hN2, hD2⟩ := facts τ r hI.1 (by omega)
      push_cast at hn
      refine wX12_lays [(39, [0, 1, 2, 3, 4, 5, 6, 7, 8])] 60 ?_
      refine ldI 14 1 (hP2.2.2.1 1 (by omega)) ?_
      refine brle (ru 1) n (fun q => by omega) (fun _ => ?_) rfl hv
      refine brle R r (fun q => by omega) (fun _ => ?_) ez hu
      exact hs (n + 1) r n 0 τ u v _ hrR (by omega) (by omega) hI hu hv rfl (fun τ' v' hI' hv' => ih r (n + 1) τ' u v' hrR (by push_cast; omega) hI' hu hv' hgo)
  have rs : ∀ (m r : Nat) (τ : Mm) (u : Int32), r + m = R + 1 → I τ r → u = jI r → Wp l G (d + 9) mX12_lays 8 [(0, .ref 98), (1, .ref w), (2, .ref T), (3, .int f), (4, .int c), (5, .int z), (6, .int u)] [] τ Q := by
    intro m
    induction m with
    | zero =>
      intro r τ u hm hI hu
      refine wX12_lays [] 60 ?_
      refine brlt R r (fun _ => ?_) (fun q => by omega) ez hu
      obtain rfl : r = R + 1 := by omega
      refine hq τ (fun a ha => by rw [hI.1]; exact hF1.1 a ha) (fun a ha0 ha => (hI.2.1 a ha).trans (hF1.2 a ha0)) (hL1.fr (by rw [hI.1]) (by rw [hI.1]) (by rw [hI.1])) (fun r hr1 t h _ q1 q2 => ⟨fun q3 => (hI.2.2 r (by omega) t h q3 q2).1, fun q3 => zC_end q3, ?_⟩) (fun r hr1 => ?_) (fun r hr1 t h q1 q2 => (hI.2.2 r (by omega) t h q1 q2).2 hr1)
      · have := zco_in (pol := pol) hr ham0 hra hpol hc r t h q1 q2
        have : (r : Int) ≤ 2 := by omega
        omega
      · intro q0 t h q1 q2
        obtain ⟨r', rfl⟩ : ∃ r', r = r' + 1 := ⟨r - 1, by omega⟩
        have b := zN_in (pol := pol) hr ham0 hra hpol (r' + 1) t h q1 q2
        refine ⟨(hI.2.2 r' (by omega) t h q1 q2).2 (by omega) t h (Nat.le_refl _) q1 q2, b.1, ?_⟩
        have : ((r' + 1 : Nat) : Int) ≤ 2 := by omega
        omega
    | succ m ih =>
      intro r τ u hm hI hu
      by_cases hrR : r < R
      · refine wX12_lays [(18, [0, 1, 2, 3, 4, 5, 6, 7])] 60 ?_
        refine brlt R r (fun q => by omega) (fun _ => ?_) ez hu
        exact ts (ru 1).toNat r 0 τ u _ hrR (by omega) ⟨hI, fun t h q1 q2 q3 => by omega⟩ hu rfl (fun τ' u' hI' hu' => ih (r + 1) τ' u' (by omega) hI' hu')
      · obtain ⟨hP2, hL2, hN2, hD2⟩ := facts τ r hI (by omega)
        refine wX12_lays [(87, [0, 1, 2, 3, 4, 5, 6, 7])] 60 ?_
        refine brlt R r (fun q => by omega) (fun _ => ?_) ez hu
        refine ldI 14 1 (hP2.2.2.1 1 (by omega)) ?_
        refine brle (ru 1) 0 (fun q => by omega) (fun _ => ?_)
        refine brle R r (fun _ => ?_) (fun q => by omega) ez hu
        exact own r τ u _ (by omega) hI (fun q => by omega) hu (fun τ' u' hI' hu' => ih (r + 1) τ' u' (by omega) hI' hu')
  exact rs (R + 1) 0 σ1 _ (by omega) ⟨rfl, fun _ _ => rfl, fun r' hr1 => by omega⟩ rfl
end MLX
section MLY
variable {l : Launch} {G : GT} {d : Nat} {σ : Mm} {Q : Po} {ru : Nat → Int} {W : Wk}
theorem c_laysNowY (hM : RM σ ru W) (hq : ∀ τ, Qf σ τ → LY τ ru W.am → TB τ 115 ru W.r 0 0 (zco ru W.am W.ra none W.r (W.f 2)) → (∀ r, r ≤ W.r → TN τ 115 ru r (zN ru W.am W.ra none r)) → (∀ r, r < W.r → ∀ t h : Nat, (t : Int) < ru 1 → h ≤ t → ∀ i j : Nat, t ≤ i → (i : Int) < ru 1 → j ≤ i → τ.2 115 (ix4 r (12 * t + h + 1) i j) = jL (zC ru W.am W.ra none r (zcp ru W.ra t h) (zN ru W.am W.ra none r) i j)) → Q none τ) : MW l G (d + 10) mX12_laysNow [.ref 98] σ Q := by
  obtain ⟨hr3, r2, _, _, _⟩ := hM.r
  obtain ⟨h1, h2, h3, h4, h5⟩ := hM
  have e7 : uI σ 98 27 0 = σ := uI_id h4
  refine vX12_laysNow [] 60 ?_
  refine ldI 494 2 (show _ = jI (W.f 2) by rw [e7]; exact h3.1 2 (by omega)) ?_
  rw [e7]
  refine ldI 494 3 (h3.1 3 (by omega)) ?_
  exact c_laysX (w := 108) (T := 115) (am := W.am) none (W.f 2) W.r (h3.PM h2 (Or.inl rfl) h4) (by decide) (fun j => (h5.2.2.2.2.2.2.2.1 j).1) (fun j hj => ⟨h3.2.1 j hj, (h5.2.2.2.2.2.2.2.1 j).2⟩) (by decide) r2 h5.2.1 (fun de q => by simp at q) rfl (fun τ g1 g2 g3 g4 g5 g6 => hq τ (Qf.rf.la 115 (Or.inl rfl) g1 g2) g3 (g4 W.r (Nat.le_refl _)) g5 g6) rfl (by rw [hr3])
end MLY
