-- steps of a script, read purely; by the reference, by the class
def stW (c : Int) : Int := plc (stc 224) (jI c) 10 0
theorem stW_in (c : Int) : stW c = -1 ∨ 0 ≤ stW c ∧ stW c < 10 := by
  have := plc_in (stc 224) (jI c) 10 0
  unfold stW
  omega
theorem stW_end : stW (-1) = -1 ∧ stW 0 = -1 := ⟨by decide, by decide⟩
def nuC (w : Nat) : Nat := if w = 5 then 2 else if w = 6 then 3 else 0
theorem nuC_in (w : Nat) : nuC w ≤ 3 := by unfold nuC; split <;> (try split) <;> omega
/-- where the k-th number of a step begins -/
def snP (T : Tp) (k e : Nat) : Nat := if k = 0 then e else sk T e + 1
/-- the numbers of a step: where one stands, the fault, the numbers -/
def snF (T : Tp) : Nat → Nat → Nat → (Nat → Int) → Nat × Int × (Nat → Int)
  | 0, _, e, v => (e, -1, v)
  | m + 1, k, e, v =>
    if 0 < k ∧ ch T (sk T e) ≠ 44 then (sk T e, (sk T e : Int), v)
    else if (nuE T (snP T k e)).2.2 ≠ -1 then ((nuE T (snP T k e)).1, (nuE T (snP T k e)).2.2, v)
    else snF T m (k + 1) (nuE T (snP T k e)).1 (fun j => if j = k then (nuE T (snP T k e)).2.1 else v j)
theorem snP_in {T : Tp} {k e : Nat} (he : e ≤ T.n) (h : ¬ (0 < k ∧ ch T (sk T e) ≠ 44)) : e ≤ snP T k e ∧ snP T k e ≤ T.n := by
  have hk := sk_in he
  unfold snP
  by_cases q : k = 0
  · rw [if_pos q]
    omega
  · rw [if_neg q]
    have : ch T (sk T e) = 44 := by
      by_cases c : ch T (sk T e) = 44
      · exact c
      · exact absurd ⟨by omega, c⟩ h
    have hl : sk T e < T.n := by
      by_cases c : sk T e < T.n
      · exact c
      · unfold ch at this
        rw [if_neg c] at this
        omega
    omega
theorem snF_in (T : Tp) : ∀ m k e v, e ≤ T.n → (∀ j, -1 ≤ v j ∧ v j ≤ 9999) → (e ≤ (snF T m k e v).1 ∧ (snF T m k e v).1 ≤ T.n) ∧ (-1 ≤ (snF T m k e v).2.1 ∧ (snF T m k e v).2.1 ≤ T.n) ∧ (∀ j, -1 ≤ (snF T m k e v).2.2 j ∧ (snF T m k e v).2.2 j ≤ 9999)
  | 0, k, e, v, he, hv => ⟨⟨Nat.le_refl _, he⟩, ⟨show (-1 : Int) ≤ -1 by omega, show (-1 : Int) ≤ T.n by omega⟩, hv⟩
  | m + 1, k, e, v, he, hv => by
    have hk := sk_in he
    unfold snF
    by_cases q : 0 < k ∧ ch T (sk T e) ≠ 44
    · rw [if_pos q]
      exact ⟨hk, ⟨show (-1 : Int) ≤ (sk T e : Int) by omega, show (sk T e : Int) ≤ T.n by omega⟩, hv⟩
    · rw [if_neg q]
      have hp := snP_in he q
      have hb := nuE_in hp.2
      by_cases nf : (nuE T (snP T k e)).2.2 ≠ -1
      · rw [if_pos nf]
        exact ⟨⟨by omega, hb.2.1⟩, hb.2.2.2.1, hv⟩
      · rw [if_neg nf]
        have ih := snF_in T m (k + 1) (nuE T (snP T k e)).1 (fun j => if j = k then (nuE T (snP T k e)).2.1 else v j) hb.2.1 (fun j => by
          show -1 ≤ (if j = k then (nuE T (snP T k e)).2.1 else v j) ∧ (if j = k then (nuE T (snP T k e)).2.1 else v j) ≤ 9999
          split
          · omega
          · exact hv j)
        exact ⟨⟨by omega, ih.1.2⟩, ih.2.1, ih.2.2⟩
section MSt
variable {l : Launch} {G : GT} {d : Nat} {σ : Mm} {Q : Po} {T : Tp}
theorem c_numbersOf {x : Int32} (w : Nat) (hw : w < 10) (hq : Q (some (.int (jI (nuC w : Int)))) σ) (ex : x = jI (w : Int) := by first | rfl | assumption | (simp only [jlit, jneg, jadd, jsub, jmul]; done) | (simp only [jlit, jneg, jadd, jsub, jmul]; congr 1 <;> omega) | (congr 1 <;> omega)) : MW l G d mX12_numbersOf [.int x] σ Q := by
  refine vX12_numbersOf [] 20 ?_
  unfold nuC at hq
  refine breq (w : Int) 5 (fun q => ?_) (fun q => ?_) (hx := ex) (hy := rfl)
  · rw [if_pos (by omega)] at hq
    exact hq
  · rw [if_neg (by omega)] at hq
    refine breq (w : Int) 6 (fun q2 => ?_) (fun q2 => ?_) (hx := ex) (hy := rfl)
    · rw [if_pos (by omega)] at hq
      exact hq
    · rw [if_neg (by omega)] at hq
      exact hq
theorem c_readStep {x : Int32} (hG : GX G) (p n : Nat) (hn : n < 16) (hT : TM σ T) (hp : p ≤ T.n) (ha : σ.1 98 3 = jI (p : Int)) (hf : σ.1 98 4 = -1)
    (hq1 : stW (ch T (sk T p)) = -1 → ∀ τ : Mm, (∀ c, c ≠ 98 → τ.1 c = σ.1 c) → τ.2 = σ.2 → (∀ k, k ≠ 3 → k ≠ 4 → τ.1 98 k = σ.1 98 k) → τ.1 98 4 = jI (sk T p : Int) → Q none τ)
    (hq : ∀ w : Nat, w < 10 → sk T p < T.n → stW (ch T (sk T p)) = (w : Int) → ∀ τ : Mm, (∀ c, c ≠ 98 → c ≠ 106 → τ.1 c = σ.1 c) → τ.2 = σ.2 → (∀ k, k ≠ 3 → k ≠ 4 → τ.1 98 k = σ.1 98 k) → τ.1 98 4 = jI (snF T (nuC w) 0 (sk T p + 1) (fun _ => -1)).2.1 → ((snF T (nuC w) 0 (sk T p + 1) (fun _ => -1)).2.1 = -1 → τ.1 98 3 = jI ((snF T (nuC w) 0 (sk T p + 1) (fun _ => -1)).1 : Int) ∧ τ.1 106 (256 + 4 * n) = jI (w : Int) ∧ ∀ j, j < 3 → τ.1 106 (256 + 4 * n + 1 + j) = jI ((snF T (nuC w) 0 (sk T p + 1) (fun _ => -1)).2.2 j)) → (∀ j, j < 256 + 4 * n → τ.1 106 j = σ.1 106 j) → Q none τ)
    (ex : x = jI (n : Int) := by first | rfl | assumption | (simp only [jlit, jneg, jadd, jsub, jmul]; done) | (simp only [jlit, jneg, jadd, jsub, jmul]; congr 1 <;> omega) | (congr 1 <;> omega)) : MW l G (d + 5) mX12_readStep [.ref 98, .int x] σ Q := by
  have h1 := hT.1
  have hk := sk_in hp
  have ci := ch_in T (sk T p)
  have wi := stW_in (ch T (sk T p))
  obtain ⟨σ1, hσ1⟩ : ∃ σ1, σ1 = uI σ 98 3 (jI (sk T p : Int)) := ⟨_, rfl⟩
  have s3 : σ1.1 98 3 = jI (sk T p : Int) := by rw [hσ1, uI_at]
  have sk9 : ∀ k, k ≠ 3 → σ1.1 98 k = σ.1 98 k := fun k hk => by rw [hσ1, uI_ne (Or.inr hk)]
  have sc9 : ∀ c, c ≠ 98 → σ1.1 c = σ.1 c := fun c hc => by rw [hσ1, uI_n hc]
  have s29 : σ1.2 = σ.2 := by rw [hσ1]; rfl
  refine vX12_readStep [(47, [0, 2, 3, 4])] 60 ?_
  refine And.intro hG ?_
  refine c_look (T.n - p) p rfl hT hp ha ?_
  rw [← hσ1]
  refine c_spotOf hG (Or.inr (Or.inr (Or.inr (Or.inr rfl)))) ?_
  rw [show plc (stc (214 + 10)) (jI (ch T (sk T p))) (stc (214 + 10)).length 0 = stW (ch T (sk T p)) from rfl]
  refine breq (stW (ch T (sk T p))) (-1) (fun z => ?_) (fun z => ?_) (hx := rfl) (hy := rfl)
  · refine c_fails _ s3 (by rw [sk9 4 (by decide)]; exact hf) ?_
    exact hq1 z _ (fun c hc => by rw [uI_n hc]; exact sc9 c hc) s29 (fun k k1 k2 => by rw [uI_ne (Or.inr k2)]; exact sk9 k k1) (uI_at _ _ _ _)
  · obtain ⟨w, hw⟩ : ∃ w : Nat, stW (ch T (sk T p)) = (w : Int) := ⟨(stW (ch T (sk T p))).toNat, by omega⟩
    have hw10 : w < 10 := by omega
    have hpn : sk T p < T.n := by
      by_cases q : sk T p < T.n
      · exact q
      · exfalso
        have hc9 : ch T (sk T p) = -1 := by unfold ch; rw [if_neg q]
        rw [hc9, stW_end.1] at hw
        omega
    have hq := hq w hw10 hpn hw
    obtain ⟨F, hF⟩ : ∃ F, F = snF T (nuC w) 0 (sk T p + 1) (fun _ => -1) := ⟨_, rfl⟩
    rw [← hF] at hq
    rw [hw]
    have hnc := nuC_in w
    -- the fault is set
    have dead : ∀ (m k : Nat) (u y v : Int32) (τ : Mm), k + m = 3 → u = jI (k : Int) → y = jI ((256 + 4 * n : Nat) : Int) → v = jI (w : Int) → (∀ c, c ≠ 98 → c ≠ 106 → τ.1 c = σ.1 c) → τ.2 = σ.2 → (∀ k, k ≠ 3 → k ≠ 4 → τ.1 98 k = σ.1 98 k) → τ.1 98 4 = jI F.2.1 → F.2.1 ≠ -1 → R31 F.2.1 → (∀ j, j < 256 + 4 * n → τ.1 106 j = σ.1 106 j) → Wp l G (d + 5) mX12_readStep 47 [(0, .ref 98), (2, .int y), (3, .int v), (4, .int u)] [] τ Q := by
      intro m
      induction m with
      | zero =>
        intro k u y v τ hm hu hy hv e1 e2 e3 e4 nf rf e6
        refine wX12_readStep [] 60 ?_
        refine brle 3 (k : Int) (fun _ => ?_) (fun q => by omega) (hx := rfl) (hy := hu)
        exact hq τ e1 e2 e3 e4 (fun z => absurd z nf) e6
      | succ m ih =>
        intro k u y v τ hm hu hy hv e1 e2 e3 e4 nf rf e6
        have go : ∀ i : Nat, i = 256 + 4 * n + 1 + k → Wp l G (d + 5) mX12_readStep 47 [(0, .ref 98), (2, .int y), (3, .int v), (4, .int (u + 1))] [] (uI τ 106 i (-1)) Q := by
          intro i hi
          refine ih (k + 1) _ y v _ (by omega) (by rw [hu]; simp only [jlit, jadd]; congr 1) hy hv (fun c k1 k2 => by rw [uI_n k2]; exact e1 c k1 k2) e2 (fun k k1 k2 => by rw [uI_n (by decide)]; exact e3 k k1 k2) (by rw [uI_n (by decide)]; exact e4) nf rf (fun j hj => by rw [uI_ne (Or.inr (by omega))]; exact e6 j hj)
        refine wX12_readStep [(47, [0, 2, 3, 4])] 60 ?_
        refine brle 3 (k : Int) (fun q => by omega) (fun _ => ?_) (hx := rfl) (hy := hu)
        refine stI 320 (256 + 4 * n + 1 + k) ?_ (hi := by rw [hy, hu]; simp only [jlit, jadd]; congr 1)
        refine c_numbersOf w hw10 ?_ hv
        refine brle (nuC w : Int) (k : Int) (fun _ => go _ rfl) (fun _ => ?_) (hx := rfl) (hy := hu)
        exact breq F.2.1 (-1) (fun q => absurd q nf) (fun _ => go _ rfl) (hx := by rw [uI_n (by decide)]; exact e4) (hy := rfl)
    have live : ∀ (m k e : Nat) (u y v : Int32) (vv : Nat → Int) (τ : Mm), k + m = 3 → e ≤ T.n → u = jI (k : Int) → y = jI ((256 + 4 * n : Nat) : Int) → v = jI (w : Int) → (∀ c, c ≠ 98 → c ≠ 106 → τ.1 c = σ.1 c) → τ.2 = σ.2 → (∀ k, k ≠ 3 → τ.1 98 k = σ.1 98 k) → τ.1 98 3 = jI (e : Int) → (∀ j, j < 256 + 4 * n → τ.1 106 j = σ.1 106 j) → τ.1 106 (256 + 4 * n) = jI (w : Int) → (∀ j, j < k → τ.1 106 (256 + 4 * n + 1 + j) = jI (vv j)) → (∀ j, k ≤ j → vv j = -1) → F = snF T (nuC w - k) k e vv → Wp l G (d + 5) mX12_readStep 47 [(0, .ref 98), (2, .int y), (3, .int v), (4, .int u)] [] τ Q := by
      intro m
      induction m with
      | zero =>
        intro k e u y v vv τ hm he hu hy hv e1 e2 e3 e4 e5 e6 e7 e8 hFF
        rw [show nuC w - k = 0 by omega] at hFF
        have hFF : F = (e, -1, vv) := hFF
        refine wX12_readStep [] 60 ?_
        refine brle 3 (k : Int) (fun _ => ?_) (fun q => by omega) (hx := rfl) (hy := hu)
        refine hq τ e1 e2 (fun k k1 _ => e3 k k1) (by rw [hFF, e3 4 (by decide), hf]; rfl) (fun _ => ?_) e5
        rw [hFF]
        exact ⟨e4, e6, fun j hj => e7 j (by omega)⟩
      | succ m ih =>
        intro k e u y v vv τ hm he hu hy hv e1 e2 e3 e4 e5 e6 e7 e8 hFF
        have f4 : τ.1 98 4 = -1 := by rw [e3 4 (by decide)]; exact hf
        have he9 := sk_in he
        have ce := ch_in T (sk T e)
        obtain ⟨τ1, hτ1⟩ : ∃ τ1, τ1 = uI τ 106 (256 + 4 * n + 1 + k) (-1) := ⟨_, rfl⟩
        have t1 : ∀ c, c ≠ 106 → τ1.1 c = τ.1 c := fun c hc => by rw [hτ1, uI_n hc]
        have t6 : ∀ j, j ≠ 256 + 4 * n + 1 + k → τ1.1 106 j = τ.1 106 j := fun j hj => by rw [hτ1, uI_ne (Or.inr hj)]
        have t7 : τ1.1 106 (256 + 4 * n + 1 + k) = jI (-1) := by rw [hτ1, uI_at]; rfl
        have t2 : τ1.2 = σ.2 := by rw [hτ1]; exact e2
        have T1 : TM τ1 T := hT.fr (by rw [t1 98 (by decide)]; exact e3 2 (by decide)) (by rw [t1 99 (by decide)]; exact e1 99 (by decide) (by decide))
        refine wX12_readStep [(47, [0, 2, 3, 4]), (104, [0, 2, 3, 4]), (119, [0, 2, 3, 4])] 60 ?_
        refine brle 3 (k : Int) (fun q => by omega) (fun _ => ?_) (hx := rfl) (hy := hu)
        refine stI 320 (256 + 4 * n + 1 + k) ?_ (hi := by rw [hy, hu]; simp only [jlit, jadd]; congr 1)
        rw [← hτ1]
        refine c_numbersOf w hw10 ?_ hv
        refine brle (nuC w : Int) (k : Int) (fun z => ?_) (fun z => ?_) (hx := rfl) (hy := hu)
        · refine ih (k + 1) e _ y v vv _ (by omega) he (by rw [hu]; simp only [jlit, jadd]; congr 1) hy hv (fun c k1 k2 => by rw [t1 c k2]; exact e1 c k1 k2) t2 (fun k hk => by rw [t1 98 (by decide)]; exact e3 k hk) (by rw [t1 98 (by decide)]; exact e4) (fun j hj => by rw [t6 j (by omega)]; exact e5 j hj) (by rw [t6 _ (by omega)]; exact e6) (fun j hj => ?_) (fun j hj => e8 j (by omega)) (by rw [hFF, show nuC w - (k + 1) = 0 by omega, show nuC w - k = 0 by omega]; rfl)
          by_cases q : j = k
          · rw [q, t7, e8 k (by omega)]
          · rw [t6 _ (by omega)]
            exact e7 j (by omega)
        · rw [show nuC w - k = (nuC w - (k + 1)) + 1 by omega] at hFF
          unfold snF at hFF
          have f41 : τ1.1 98 4 = -1 := by rw [t1 98 (by decide)]; exact f4
          have e41 : τ1.1 98 3 = jI (e : Int) := by rw [t1 98 (by decide)]; exact e4
          -- the number itself
          have num : ¬ (0 < k ∧ ch T (sk T e) ≠ 44) → ∀ ρ : Mm, (∀ c, c ≠ 98 → ρ.1 c = τ1.1 c) → ρ.2 = τ1.2 → (∀ k, k ≠ 3 → ρ.1 98 k = τ1.1 98 k) → ρ.1 98 3 = jI (snP T k e : Int) → Wp l G (d + 5) mX12_readStep 119 [(0, .ref 98), (2, .int y), (3, .int v), (4, .int u)] [] ρ Q := by
            intro no ρ r1 r2 r3 r4
            rw [if_neg no] at hFF
            have hsp := snP_in he no
            have hb := nuE_in hsp.2
            have Tr : TM ρ T := T1.fr (r3 2 (by decide)) (r1 99 (by decide))
            refine wX12_readStep [(47, [0, 2, 3, 4])] 60 ?_
            refine c_number (snP T k e) Tr hsp.2 r4 (by rw [r3 4 (by decide)]; exact f41) (fun π g1 g2 g3 g4 g5 => ?_)
            refine stI 320 (256 + 4 * n + 1 + k) ?_ (hi := by rw [hy, hu]; simp only [jlit, jadd]; congr 1)
            obtain ⟨π1, hπ1⟩ : ∃ π1, π1 = uI π 106 (256 + 4 * n + 1 + k) (jI (nuE T (snP T k e)).2.1) := ⟨_, rfl⟩
            rw [← hπ1]
            have w1 : ∀ c, c ≠ 98 → c ≠ 106 → π1.1 c = σ.1 c := fun c k1 k2 => by rw [hπ1, uI_n k2, g1 c k1, r1 c k1, t1 c k2]; exact e1 c k1 k2
            have w2 : π1.2 = σ.2 := by rw [hπ1]; exact g2.trans (r2.trans t2)
            have w3 : ∀ k, k ≠ 3 → k ≠ 4 → π1.1 98 k = σ.1 98 k := fun k k1 k2 => by rw [hπ1, uI_n (by decide), g3 k k1 k2, r3 k k1, t1 98 (by decide)]; exact e3 k k1
            have w6 : ∀ j, j ≠ 256 + 4 * n + 1 + k → π1.1 106 j = τ.1 106 j := fun j hj => by rw [hπ1, uI_ne (Or.inr hj), g1 106 (by decide), r1 106 (by decide), t6 j hj]
            have w4 : π1.1 98 4 = jI (nuE T (snP T k e)).2.2 := by rw [hπ1, uI_n (by decide)]; exact g5
            by_cases nf : (nuE T (snP T k e)).2.2 = -1
            · rw [if_neg (fun q => q nf)] at hFF
              rw [nf] at w4
              refine ih (k + 1) (nuE T (snP T k e)).1 _ y v _ _ (by omega) hb.2.1 (by rw [hu]; simp only [jlit, jadd]; congr 1) hy hv w1 w2 (fun k9 hk9 => ?_) (by rw [hπ1, uI_n (by decide)]; exact g4) (fun j hj => by rw [w6 j (by omega)]; exact e5 j hj) (by rw [w6 _ (by omega)]; exact e6) (fun j hj => ?_) (fun j hj => ?_) hFF
              · by_cases q : k9 = 4
                · rw [q, w4, hf]
                  rfl
                · exact w3 k9 hk9 q
              · by_cases q : j = k
                · show _ = jI (if j = k then (nuE T (snP T k e)).2.1 else vv j)
                  rw [if_pos q, q, hπ1, uI_at]
                · show _ = jI (if j = k then (nuE T (snP T k e)).2.1 else vv j)
                  rw [if_neg q, w6 _ (by omega)]
                  exact e7 j (by omega)
              · show (if j = k then (nuE T (snP T k e)).2.1 else vv j) = -1
                rw [if_neg (by omega)]
                exact e8 j (by omega)
            · rw [if_pos nf] at hFF
              have eF : F.2.1 = (nuE T (snP T k e)).2.2 := by rw [hFF]
              refine dead m (k + 1) _ y v _ (by omega) (by rw [hu]; simp only [jlit, jadd]; congr 1) hy hv w1 w2 w3 (by rw [eF]; exact w4) (by rw [eF]; exact nf) (by rw [eF]; omega) (fun j hj => by rw [w6 j (by omega)]; exact e5 j hj)
          refine And.intro (fun _ => ?_) (fun q => absurd f41 q)
          refine brle (k : Int) 0 (fun q => ?_) (fun q => ?_) (hx := hu) (hy := rfl)
          · refine wX12_readStep [(119, [0, 2, 3, 4])] 60 ?_
            refine brle (k : Int) 0 (fun _ => ?_) (fun q2 => by omega) (hx := hu) (hy := rfl)
            exact num (fun q2 => by omega) τ1 (fun _ _ => rfl) rfl (fun _ _ => rfl) (by unfold snP; rw [if_pos (by omega)]; exact e41)
          · refine c_look (T.n - e) e rfl T1 he e41 ?_
            have l3 := uI_at τ1 98 3 (jI (sk T e : Int))
            have l4 : (uI τ1 98 3 (jI (sk T e : Int))).1 98 4 = -1 := by rw [uI_ne (Or.inr (by decide))]; exact f41
            refine breq (ch T (sk T e)) 44 (fun q2 => ?_) (fun q2 => ?_) (hx := rfl) (hy := rfl)
            · refine wX12_readStep [(119, [0, 2, 3, 4])] 60 ?_
              refine brle (k : Int) 0 (fun q3 => by omega) (fun _ => ?_) (hx := hu) (hy := rfl)
              exact num (fun q3 => q3.2 q2) _ (fun c hc => by rw [uI_n hc, uI_n hc]) rfl (fun k hk => by rw [uI_ne (Or.inr hk), uI_ne (Or.inr hk)]) (by rw [uI_at, l3]; unfold snP; rw [if_neg (by omega)]; simp only [jlit, jadd]; congr 1)
            · refine c_fails _ l3 l4 ?_
              rw [if_pos ⟨by omega, q2⟩] at hFF
              refine hq _ (fun c k1 k2 => by rw [uI_n k1, uI_n k1, t1 c k2]; exact e1 c k1 k2) t2 (fun k k1 k2 => by rw [uI_ne (Or.inr k2), uI_ne (Or.inr k1), t1 98 (by decide)]; exact e3 k k1) (by rw [uI_at, hFF]) (fun z => by rw [hFF] at z; exact absurd (show (sk T e : Int) = -1 from z) (by omega)) (fun j hj => by rw [uI_n (by decide), uI_n (by decide), t6 j (by omega)]; exact e5 j hj)
    refine stI 320 (256 + 4 * n) ?_ (hi := by rw [ex]; simp only [jlit, jadd, jmul]; congr 1; omega)
    refine live 3 0 (sk T p + 1) _ _ _ (fun _ => -1) _ (by omega) (by omega) rfl (by rw [ex]; simp only [jlit, jadd, jmul]; congr 1; omega) rfl (fun c k1 k2 => by rw [uI_n k2, uI_n k1]; exact sc9 c k1) s29 (fun k hk => by rw [uI_n (by decide), uI_ne (Or.inr hk)]; exact sk9 k hk) (by rw [uI_n (by decide), uI_at, s3]; simp only [jlit, jadd]; congr 1) (fun j hj => by rw [uI_ne (Or.inr (by omega)), uI_n (by decide), sc9 106 (by decide)]) (uI_at _ _ _ _) (fun j hj => by omega) (fun _ _ => rfl) hF
end MSt
section KSt
variable {l : Launch} {G : GT} {d : Nat} {σ : Mm} {Q : Po} {T : Tp}
theorem nuB9 {T : Tp} {p : Nat} (hp : p ≤ T.n) : nuB T p 0 9999 = (nuE T p).2.2 := by
  have hb := nuE_in hp
  unfold nuB
  by_cases q : (nuE T p).2.2 = -1
  · rw [if_neg (fun k => k q), if_pos (by omega), q]
  · rw [if_pos q]
theorem k_readStepNumbers {x : Int32} (w n p : Nat) (hw : w < 10) (hn : n < 28) (hT : TK σ T) (hp : p ≤ T.n) (ha : σ.1 8 5 = jI (p : Int)) (h2 : σ.1 8 2 = jI (n : Int))
    (hq : ∀ τ : Mm, (∀ c, c ≠ 8 → c ≠ 10 → τ.1 c = σ.1 c) → τ.2 = σ.2 → (∀ k, k ≠ 2 → k ≠ 5 → k ≠ 6 → τ.1 8 k = σ.1 8 k) → τ.1 8 2 = jI ((n + 1 : Nat) : Int) → ((snF T (nuC w) 0 p (fun _ => -1)).2.1 = -1 → τ.1 8 5 = jI ((snF T (nuC w) 0 p (fun _ => -1)).1 : Int) ∧ τ.1 10 (4 * n) = jI (w : Int) ∧ ∀ j, j < 3 → τ.1 10 (4 * n + 1 + j) = jI ((snF T (nuC w) 0 p (fun _ => -1)).2.2 j)) → (∀ j, j < 4 * n → τ.1 10 j = σ.1 10 j) → Q (some (.int (jI (snF T (nuC w) 0 p (fun _ => -1)).2.1))) τ)
    (ex : x = jI (w : Int) := by first | rfl | assumption | (simp only [jlit, jneg, jadd, jsub, jmul]; done) | (simp only [jlit, jneg, jadd, jsub, jmul]; congr 1 <;> omega) | (congr 1 <;> omega)) : MW l G (d + 3) mX4_readStepNumbers [.ref 8, .int x] σ Q := by
  have h1 := hT.1
  have hnc := nuC_in w
  obtain ⟨F, hF⟩ : ∃ F, F = snF T (nuC w) 0 p (fun _ => -1) := ⟨_, rfl⟩
  rw [← hF] at hq
  have key : ∀ (m k e : Nat) (u y v : Int32) (vv : Nat → Int) (τ : Mm), k + m = nuC w → e ≤ T.n → u = jI ((k + 1 : Nat) : Int) → y = jI ((4 * n : Nat) : Int) → v = jI (nuC w : Int) → (∀ c, c ≠ 8 → c ≠ 10 → τ.1 c = σ.1 c) → τ.2 = σ.2 → (∀ k, k ≠ 2 → k ≠ 5 → k ≠ 6 → τ.1 8 k = σ.1 8 k) → τ.1 8 2 = jI ((n + 1 : Nat) : Int) → τ.1 8 5 = jI (e : Int) → (∀ j, j < 4 * n → τ.1 10 j = σ.1 10 j) → τ.1 10 (4 * n) = jI (w : Int) → (∀ j, j < 3 → τ.1 10 (4 * n + 1 + j) = jI (vv j)) → F = snF T m k e vv → Wp l G (d + 3) mX4_readStepNumbers 60 [(0, .ref 8), (2, .int y), (3, .int v), (4, .int u)] [] τ Q := by
    intro m
    induction m with
    | zero =>
      intro k e u y v vv τ hm he hu hy hv e1 e2 e3 e4 e5 e6 e7 e8 hFF
      have hFF : F = (e, -1, vv) := hFF
      refine wX4_readStepNumbers [] 60 ?_
      refine brlt (nuC w : Int) ((k + 1 : Nat) : Int) (fun _ => ?_) (fun q => by omega) (hx := hv) (hy := hu)
      have := hq τ e1 e2 e3 e4 (fun _ => by rw [hFF]; exact ⟨e5, e7, e8⟩) e6
      rw [hFF] at this
      exact this
    | succ m ih =>
      intro k e u y v vv τ hm he hu hy hv e1 e2 e3 e4 e5 e6 e7 e8 hFF
      have he9 := sk_in he
      have Tt : TK τ T := hT.fr (e1 6 (by decide) (by decide)) (e1 7 (by decide) (by decide))
      unfold snF at hFF
      have num : ¬ (0 < k ∧ ch T (sk T e) ≠ 44) → ∀ ρ : Mm, (∀ c, c ≠ 8 → ρ.1 c = τ.1 c) → ρ.2 = τ.2 → (∀ k, k ≠ 5 → ρ.1 8 k = τ.1 8 k) → ρ.1 8 5 = jI (snP T k e : Int) → Wp l G (d + 3) mX4_readStepNumbers 107 [(0, .ref 8), (2, .int y), (3, .int v), (4, .int u)] [] ρ Q := by
        intro no ρ r1 r2 r3 r4
        rw [if_neg no] at hFF
        have hsp := snP_in he no
        have hb := nuE_in hsp.2
        have Tr : TK ρ T := Tt.fr (r1 6 (by decide)) (r1 7 (by decide))
        refine wX4_readStepNumbers [(60, [0, 2, 3, 4])] 60 ?_
        refine k_readNumber (snP T k e) 0 9999 Tr hsp.2 r4 (by omega) (by omega) (fun π g1 g2 g3 g4 g5 => ?_) rfl rfl
        rw [nuB9 hsp.2]
        have w1 : ∀ c, c ≠ 8 → c ≠ 10 → π.1 c = σ.1 c := fun c k1 k2 => by rw [g1 c k1, r1 c k1]; exact e1 c k1 k2
        have w3 : ∀ k, k ≠ 2 → k ≠ 5 → k ≠ 6 → π.1 8 k = σ.1 8 k := fun k k1 k2 k3 => by rw [g3 k k2 k3, r3 k k2]; exact e3 k k1 k2 k3
        have w4 : π.1 8 2 = jI ((n + 1 : Nat) : Int) := by rw [g3 2 (by decide) (by decide), r3 2 (by decide)]; exact e4
        have w10 : π.1 10 = τ.1 10 := by rw [g1 10 (by decide), r1 10 (by decide)]
        by_cases nf : (nuE T (snP T k e)).2.2 = -1
        · rw [if_neg (fun q => q nf)] at hFF
          refine breq (nuE T (snP T k e)).2.2 (-1) (fun _ => ?_) (fun q => absurd nf q) (hx := rfl) (hy := rfl)
          have hk3 : k < 3 := by omega
          refine stI 112 (4 * n + 1 + k) ?_ (hi := by rw [hy, hu]; simp only [jlit, jadd]; congr 1; omega)
          refine ih (k + 1) (nuE T (snP T k e)).1 _ y v _ _ (by omega) hb.2.1 (by rw [hu]; simp only [jlit, jadd]; congr 1) hy hv (fun c k1 k2 => by rw [uI_n k2]; exact w1 c k1 k2) (g2.trans (r2.trans e2)) (fun k k1 k2 k3 => by rw [uI_n (by decide)]; exact w3 k k1 k2 k3) (by rw [uI_n (by decide)]; exact w4) (by rw [uI_n (by decide)]; exact g4) (fun j hj => by rw [uI_ne (Or.inr (by omega)), w10]; exact e6 j hj) (by rw [uI_ne (Or.inr (by omega)), w10]; exact e7) (fun j hj => ?_) hFF
          show _ = jI (if j = k then (nuE T (snP T k e)).2.1 else vv j)
          by_cases q : j = k
          · rw [if_pos q, q, uI_at]
            exact g5 nf
          · rw [if_neg q, uI_ne (Or.inr (by omega)), w10]
            exact e8 j hj
        · rw [if_pos nf] at hFF
          refine breq (nuE T (snP T k e)).2.2 (-1) (fun q => absurd q nf) (fun _ => ?_) (hx := rfl) (hy := rfl)
          have := hq π w1 (g2.trans (r2.trans e2)) w3 w4 (fun z => by rw [hFF] at z; exact absurd z nf) (fun j hj => by rw [w10]; exact e6 j hj)
          rw [hFF] at this
          exact this
      refine wX4_readStepNumbers [(107, [0, 2, 3, 4])] 60 ?_
      refine brlt (nuC w : Int) ((k + 1 : Nat) : Int) (fun q => by omega) (fun _ => ?_) (hx := hv) (hy := hu)
      refine brle ((k + 1 : Nat) : Int) 1 (fun q => ?_) (fun q => ?_) (hx := hu) (hy := rfl)
      · exact num (fun q2 => by omega) τ (fun _ _ => rfl) rfl (fun _ _ => rfl) (by unfold snP; rw [if_pos (by omega)]; exact e5)
      · refine k_skipBlanks e Tt he e5 ?_
        have l5 := uI_at τ 8 5 (jI (sk T e : Int))
        have ce := cz_in T (sk T e)
        refine k_at (sk T e) Tt.rd (by omega) ?_ l5
        refine breq (cz T (sk T e)) 44 (fun q2 => ?_) (fun q2 => ?_) (hx := rfl) (hy := rfl)
        · have q2' := (cz_ch (by omega)).1 q2
          exact num (fun q3 => q3.2 q2') _ (fun c hc => by rw [uI_n hc, uI_n hc]) rfl (fun k hk => by rw [uI_ne (Or.inr hk), uI_ne (Or.inr hk)]) (by rw [uI_at, l5]; unfold snP; rw [if_neg (by omega)]; simp only [jlit, jadd]; congr 1)
        · have q2' : ch T (sk T e) ≠ 44 := fun z => q2 ((cz_ch (by omega)).2 z)
          rw [if_pos ⟨by omega, q2'⟩] at hFF
          have := hq (uI τ 8 5 (jI (sk T e : Int))) (fun c k1 k2 => by rw [uI_n k1]; exact e1 c k1 k2) e2 (fun k k1 k2 k3 => by rw [uI_ne (Or.inr k2)]; exact e3 k k1 k2 k3) (by rw [uI_ne (Or.inr (by decide))]; exact e4) (fun z => by rw [hFF] at z; exact absurd (show (sk T e : Int) = -1 from z) (by omega)) (fun j hj => by rw [uI_n (by decide)]; exact e6 j hj)
          rw [hFF, ← l5] at this
          exact this
  have go : ∀ (y v : Int32) (τ : Mm), y = jI ((4 * n : Nat) : Int) → v = jI (nuC w : Int) → (∀ c, c ≠ 8 → c ≠ 10 → τ.1 c = σ.1 c) → τ.2 = σ.2 → (∀ k, k ≠ 2 → τ.1 8 k = σ.1 8 k) → τ.1 8 2 = jI ((n + 1 : Nat) : Int) → (∀ j, j < 4 * n → τ.1 10 j = σ.1 10 j) → τ.1 10 (4 * n) = jI (w : Int) → (∀ j, j < 3 → τ.1 10 (4 * n + 1 + j) = -1) → Wp l G (d + 3) mX4_readStepNumbers 60 [(0, .ref 8), (2, .int y), (3, .int v), (4, .int 1)] [] τ Q := by
    intro y v τ hy hv e1 e2 e3 e4 e5 e6 e7
    exact key (nuC w) 0 p 1 y v (fun _ => -1) τ (by omega) hp rfl hy hv e1 e2 (fun k k1 _ _ => e3 k k1) e4 (by rw [e3 5 (by decide)]; exact ha) e5 e6 (fun j hj => by rw [e7 j hj]; rfl) hF
  refine vX4_readStepNumbers [(60, [0, 2, 3, 4])] 80 ?_
  refine c_fill4 (4 * n) (4 * n + 4) (by decide) (by decide) (by omega) (by show _ ≤ 112; omega) (by decide) (fun τ g1 g2 g3 => ?_) (by rw [h2]; simp only [jlit, jmul]; congr 1; omega) (by rw [h2]; simp only [jlit, jmul, jadd]; congr 1; omega)
  refine stI 112 (4 * n) ?_ (hi := by rw [h2]; simp only [jlit, jmul]; congr 1; omega)
  have fin : ∀ v : Int32, v = jI (nuC w : Int) → Wp l G (d + 3) mX4_readStepNumbers 60 [(0, .ref 8), (2, .int (σ.1 8 2 * 4)), (3, .int v), (4, .int 1)] [] (uI τ 10 (4 * n) x) Q := by
    intro v hv
    refine go _ v _ (by rw [h2]; simp only [jlit, jmul]; congr 1; omega) hv (fun c k1 k2 => by rw [uI_n k2, g2 c k2, uI_n k1]) g1 (fun k hk => by rw [uI_n (by decide), g2 8 (by decide), uI_ne (Or.inr hk)]) (by rw [uI_n (by decide), g2 8 (by decide), uI_at, h2]; simp only [jlit, jadd]; congr 1) (fun j hj => ?_) (by rw [uI_at]; exact ex) (fun j hj => ?_)
    · rw [uI_ne (Or.inr (by omega)), g3 j, if_neg (by omega), uI_n (by decide)]
    · rw [uI_ne (Or.inr (by omega)), g3, if_pos (by omega)]
  unfold nuC at fin
  refine breq (w : Int) 5 (fun q => ?_) (fun q => ?_) (hx := ex) (hy := rfl)
  · rw [if_pos (by omega)] at fin
    exact fin _ rfl
  · rw [if_neg (by omega)] at fin
    refine breq (w : Int) 6 (fun q2 => ?_) (fun q2 => ?_) (hx := ex) (hy := rfl)
    · rw [if_pos (by omega)] at fin
      exact fin _ rfl
    · rw [if_neg (by omega)] at fin
      exact fin _ rfl
end KSt
