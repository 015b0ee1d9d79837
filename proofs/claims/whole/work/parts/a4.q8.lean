-- loans and policies read: the reference
theorem plB3 : plB 3 = fun _ => 0 := by
  funext w
  have d3 : ∀ k : Fin 3, plB 3 k.val = 0 := by decide
  by_cases q : w < 3
  · exact d3 ⟨w, q⟩
  · unfold plB
    have : (stc 206).getD (frm 3 + w) 0 = 0 := by
      rw [List.getD_eq_getElem?_getD, List.getElem?_eq_none]
      · rfl
      · show 22 ≤ 19 + w
        omega
    rw [this]
    rfl
section MRl
variable {l : Launch} {G : GT} {d : Nat} {σ : Mm} {Q : Po} {T : Tp}
theorem c_readLoan (hG : GX G) (R : Int × Pl × (Nat → Int)) (hT : TM σ T) (hR : R = clF T 0 (T.n + 1) 0 0 [] (plB 0)) (ha : σ.1 98 3 = jI 0) (hf : σ.1 98 4 = -1)
    (hq : ∀ τ : Mm, (∀ c, c ≠ 98 → c ≠ 100 → c ≠ 102 → c ≠ 103 → τ.1 c = σ.1 c) → τ.2 = σ.2 → (∀ k, k ≠ 3 → k ≠ 4 → k ≠ 13 → k ≠ 14 → k ≠ 18 → k ≠ 19 → τ.1 98 k = σ.1 98 k) → τ.1 98 4 = jI R.1 → (R.1 = -1 → LM τ R.2.1 R.2.2) → Q none τ) : MW l G (d + 7) mX12_readLoan [.ref 98] σ Q := by
  have h1 := hT.1
  -- at the end with a fault
  have fin : ∀ (τ : Mm) (f : Int), (∀ c, c ≠ 98 → c ≠ 100 → c ≠ 102 → c ≠ 103 → τ.1 c = σ.1 c) → τ.2 = σ.2 → (∀ k, k ≠ 3 → k ≠ 4 → k ≠ 13 → k ≠ 14 → k ≠ 18 → k ≠ 19 → τ.1 98 k = σ.1 98 k) → τ.1 98 4 = jI f → f ≠ -1 → R31 f → R.1 = f → Wp l G (d + 7) mX12_readLoan 76 [(0, .ref 98)] [] τ Q := by
    intro τ f e1 e2 e3 e4 nf rf he
    refine wX12_readLoan [] 40 ?_
    refine breq f (-1) (fun q => absurd q nf) (fun _ => ?_) (hx := e4) (hy := rfl)
    exact hq τ e1 e2 e3 (by rw [he]; exact e4) (fun z => absurd (he.symm.trans z) nf)
  -- behind a clause that began at p
  have next : ∀ (m : Nat), (∀ (p had : Nat) (L : Pl) (r : Nat → Int) (τ : Mm) (Q' : Po) (x : Int32), T.n < p + m → p ≤ T.n → x = jI (had : Int) → (∀ c, c ≠ 98 → c ≠ 100 → c ≠ 102 → c ≠ 103 → τ.1 c = σ.1 c) → τ.2 = σ.2 → (∀ k, k ≠ 3 → k ≠ 13 → k ≠ 14 → k ≠ 18 → k ≠ 19 → τ.1 98 k = σ.1 98 k) → τ.1 98 3 = jI (p : Int) → LM τ L r → PW 0 had L r → R = clF T 0 m p had L r → (∀ (v : Int32) (ρ : Mm), Wp l G (d + 7) mX12_readLoan 40 [(0, .ref 98), (1, .int v)] [] ρ Q → Q' (some (.int v)) ρ) → MW l G (d + 6) mX12_clause [.ref 98, .int x] τ Q') := by
    intro m
    induction m with
    | zero => intro p had L r τ Q' x hm hp; omega
    | succ m ih =>
      intro p had L r τ Q' x hm hp hx e1 e2 e3 e4 hL hW he hQ
      have hk := sk_in hp
      have f4 : τ.1 98 4 = -1 := by rw [e3 4 (by decide) (by decide) (by decide) (by decide) (by decide)]; exact hf
      have Tt : TM τ T := hT.fr (e3 2 (by decide) (by decide) (by decide) (by decide) (by decide)) (e1 99 (by decide) (by decide) (by decide) (by decide))
      unfold clF at he
      refine c_clause hG p had L r Tt hp e4 f4 hL hW (fun no ρ g1 g2 g3 g4 => hQ _ _ ?_) (fun s hs hpn hks ok ρ g1 g2 g3 g4 g5 g6 => hQ _ _ ?_) hx
      · rw [if_pos no] at he
        refine wX12_readLoan [(76, [0])] 20 ?_
        refine breq (sk T p : Int) (-1) (fun q => by omega) (fun _ => ?_) (hx := g4) (hy := rfl)
        exact fin ρ (sk T p : Int) (fun c k1 k2 k3 k4 => (g1 c k1).trans (e1 c k1 k2 k3 k4)) (g2.trans e2) (fun k k1 k2 k3 k4 k5 k6 => (g3 k k1 k2).trans (e3 k k1 k3 k4 k5 k6)) g4 (by omega) (by omega) (by rw [he])
      · rw [hks] at he
        rw [if_neg (fun q => q ok), show ((s : Nat) : Int).toNat = s from Int.toNat_natCast s] at he
        have ci := clI_in (T := T) (r := r) (show s < 4 by omega) hpn
        have q1 : ∀ c, c ≠ 98 → c ≠ 100 → c ≠ 102 → c ≠ 103 → ρ.1 c = σ.1 c := fun c k1 k2 k3 k4 => (g1 c k1 k2 k3 k4).trans (e1 c k1 k2 k3 k4)
        have q3 : ∀ k, k ≠ 3 → k ≠ 4 → k ≠ 13 → k ≠ 14 → k ≠ 18 → k ≠ 19 → ρ.1 98 k = σ.1 98 k := fun k k1 k2 k3 k4 k5 k6 => (g3 k k1 k2 k3 k4 k5 k6).trans (e3 k k1 k3 k4 k5 k6)
        by_cases zf : (clI T s (sk T p) r).2.1 = -1
        · rw [zf] at g5
          have g5 : ρ.1 98 4 = -1 := g5
          have Tr : TM ρ T := hT.fr (q3 2 (by decide) (by decide) (by decide) (by decide) (by decide) (by decide)) (q1 99 (by decide) (by decide) (by decide) (by decide))
          have isk : sk T (clI T s (sk T p) r).1 = (clI T s (sk T p) r).1 := by
            have h := itF_in T s (by omega) (T.n + 1 - (sk T p + 1)) (sk T p + 1) 0 (if s = 0 then r else plB s) (by omega) (by omega)
            exact (h.2.2 zf).1
          obtain ⟨e, hee⟩ : ∃ e, e = (clI T s (sk T p) r).1 := ⟨_, rfl⟩
          rw [← hee] at g4 isk
          have ce := ch_in T e
          have he2 : e ≤ T.n := by omega
          have ide : uI ρ 98 3 (jI (e : Int)) = ρ := uI_id g4
          refine wX12_readLoan [(76, [0]), (40, [0, 1])] 60 ?_
          refine And.intro (fun _ => ?_) (fun q => absurd g5 q)
          refine c_look (T.n - e) e rfl Tr he2 g4 ?_
          rw [isk, ide]
          refine breq (ch T e) 59 (fun z => ?_) (fun z => ?_) (hx := rfl) (hy := rfl)
          · have hen : e < T.n := by
              by_cases q : e < T.n
              · exact q
              · unfold ch at z
                rw [if_neg q] at z
                omega
            have hg : itG T (clI T s (sk T p) r) = -1 := by
              unfold itG
              rw [if_neg (fun q => q zf), ← hee, if_neg (fun q => q.2 z)]
            have hPW := clStep hW (show s < 4 by omega) ok hpn hg
            rw [if_neg (fun q => q hg), ← hee, if_pos hen] at he
            have hn8 : ∀ c, c ≠ 98 → (uI ρ 98 3 (ρ.1 98 3 + 1)).1 c = ρ.1 c := fun c hc => uI_n hc
            have hh : hdA s had = if s = 0 then 1 else had := by
              unfold hdA
              by_cases q : s = 0
              · rw [if_pos q, if_pos q]
                have okc := ok.2.2
                rw [q] at okc
                have okc : had < 1 := okc
                omega
              · rw [if_neg q, if_neg q]
            refine ih (e + 1) (hdA s had) _ _ _ _ _ (by omega) (by omega) (by rw [hh]) (fun c k1 k2 k3 k4 => by rw [hn8 c k1]; exact q1 c k1 k2 k3 k4) (g2.trans e2) (fun k k1 k3 k4 k5 k6 => ?_) (by rw [uI_at, g4]; simp only [jlit, jadd]; congr 1) ?_ hPW he (fun v ρ' h => h)
            · rw [uI_ne (Or.inr k1)]
              by_cases k2 : k = 4
              · rw [k2, g5, hf]
              · exact q3 k k1 k2 k3 k4 k5 k6
            · refine ⟨by rw [uI_ne (Or.inr (by decide))]; exact g6.1, by rw [uI_ne (Or.inr (by decide))]; exact g6.2.1, fun j hj => by rw [hn8 100 (by decide)]; exact g6.2.2.1 j hj, g6.2.2.2.1.fr (hn8 _ (by decide)), g6.2.2.2.2.fr (hn8 _ (by decide))⟩
          · refine wX12_readLoan [] 40 ?_
            refine And.intro (fun _ => ?_) (fun q => absurd g5 q)
            refine c_look (T.n - e) e rfl Tr he2 g4 ?_
            rw [isk, ide]
            refine breq (ch T e) (-1) (fun z2 => ?_) (fun z2 => ?_) (hx := rfl) (hy := rfl)
            · have hen : ¬ e < T.n := by
                intro q
                unfold ch at z2
                rw [if_pos q] at z2
                have := bt_in T e
                omega
              have hg : itG T (clI T s (sk T p) r) = -1 := by
                unfold itG
                rw [if_neg (fun q => q zf), ← hee, if_neg (fun q => hen q.1)]
              rw [if_neg (fun q => q hg), ← hee, if_neg hen] at he
              exact hq ρ q1 (g2.trans e2) q3 (by rw [he]; exact g5) (fun _ => by rw [he]; exact g6)
            · have hen : e < T.n := by
                by_cases q : e < T.n
                · exact q
                · exfalso
                  apply z2
                  unfold ch
                  rw [if_neg q]
              have hg : itG T (clI T s (sk T p) r) = (e : Int) := by
                unfold itG
                rw [if_neg (fun q => q zf), ← hee, if_pos ⟨hen, z⟩]
              rw [if_pos (by rw [hg]; omega), hg] at he
              refine c_fails _ g4 g5 ?_
              exact hq _ (fun c k1 k2 k3 k4 => by rw [uI_n k1]; exact q1 c k1 k2 k3 k4) (g2.trans e2) (fun k k1 k2 k3 k4 k5 k6 => by rw [uI_ne (Or.inr k2)]; exact q3 k k1 k2 k3 k4 k5 k6) (by rw [uI_at, he]) (fun z => by rw [he] at z; exact absurd (show (e : Int) = -1 from z) (by omega))
        · have hg : itG T (clI T s (sk T p) r) = (clI T s (sk T p) r).2.1 := by
            unfold itG
            rw [if_pos zf]
          rw [if_pos (by rw [hg]; exact zf), hg] at he
          have rf : R31 (clI T s (sk T p) r).2.1 := by rw [← hg]; omega
          refine wX12_readLoan [(76, [0])] 20 ?_
          refine breq (clI T s (sk T p) r).2.1 (-1) (fun q => absurd q zf) (fun _ => ?_) (hx := g5) (hy := rfl)
          exact fin ρ _ q1 (g2.trans e2) q3 g5 zf rf (by rw [he])
  -- the usual rules
  have key : ∀ (m i : Nat) (u : Int32) (τ : Mm), i + m = 14 → u = jI (i : Int) → (∀ c, c ≠ 100 → τ.1 c = σ.1 c) → τ.2 = σ.2 → (∀ j, j < i → τ.1 100 j = jI (plB 0 j)) → Wp l G (d + 7) mX12_readLoan 2 [(0, .ref 98), (1, .int u)] [] τ Q := by
    intro m
    induction m with
    | zero =>
      intro i u τ hm hu e1 e2 e3
      refine wX12_readLoan [(40, [0, 1])] 60 ?_
      refine brle 14 (i : Int) (fun _ => ?_) (fun q => by omega) (hx := rfl) (hy := hu)
      obtain ⟨ρ, hρ⟩ : ∃ ρ, ρ = uI (uI τ 98 13 0) 98 14 0 := ⟨_, rfl⟩
      have r1 : ∀ c, c ≠ 98 → ρ.1 c = τ.1 c := fun c hc => by rw [hρ, uI_n hc, uI_n hc]
      have r3 : ∀ k, k ≠ 13 → k ≠ 14 → ρ.1 98 k = σ.1 98 k := fun k k1 k2 => by rw [hρ, uI_ne (Or.inr k2), uI_ne (Or.inr k1), e1 98 (by decide)]
      subst hρ
      refine next (T.n + 1) 0 0 [] (plB 0) _ _ _ (by omega) (by omega) rfl (fun c k1 k2 _ _ => (r1 c k1).trans (e1 c k2)) e2 (fun k _ k2 k3 _ _ => r3 k k2 k3) (by rw [r3 3 (by decide) (by decide)]; exact ha) ⟨by rw [uI_ne (Or.inr (by decide)), uI_at]; rfl, by rw [uI_at]; rfl, fun j hj => by rw [r1 100 (by decide)]; exact e3 j (by omega), fun j q hj => by simp [fl] at hj, fun j q hj => by simp [fl] at hj⟩ ⟨⟨by omega, bdB_pl 0 (by omega)⟩, fun q hq9 => by simp at hq9, fun s _ _ => by show 0 ≤ _; omega⟩ hR (fun v ρ h => h)
    | succ m ih =>
      intro i u τ hm hu e1 e2 e3
      refine wX12_readLoan [(2, [0, 1])] 60 ?_
      refine brle 14 (i : Int) (fun q => by omega) (fun _ => ?_) (hx := rfl) (hy := hu)
      refine c_usual i (by omega) ?_ hu
      refine stI 14 i ?_ (hi := hu)
      refine ih (i + 1) _ _ (by omega) (by rw [hu]; simp only [jlit, jadd]; congr 1) (fun c hc => by rw [uI_n hc]; exact e1 c hc) e2 (fun j hj => ?_)
      by_cases q : j = i
      · rw [q, uI_at, ← plB_at 0 i]
        show _ = (stc 206).getD (0 + i) 0
        rw [Nat.zero_add]
      · rw [uI_ne (Or.inr q)]
        exact e3 j (by omega)
  refine vX12_readLoan [(2, [0, 1])] 20 ?_
  exact key 14 0 _ σ (by omega) rfl (fun _ _ => rfl) rfl (fun j hj => by omega)
/-- the deeds read -/
def LPd (σ : Mm) (L : Pl) : Prop := σ.1 98 15 = jI ((fl 3 L).length : Int) ∧ LR σ 3 L
theorem c_readPolicy (hG : GX G) (R : Int × Pl × (Nat → Int)) (hT : TM σ T) (hR : R = clF T 2 (T.n + 1) 0 0 [] (plB 0)) (ha : σ.1 98 3 = jI 0) (hf : σ.1 98 4 = -1)
    (hq : ∀ τ : Mm, (∀ c, c ≠ 98 → c ≠ 104 → τ.1 c = σ.1 c) → τ.2 = σ.2 → (∀ k, k ≠ 3 → k ≠ 4 → k ≠ 15 → k ≠ 18 → k ≠ 19 → τ.1 98 k = σ.1 98 k) → τ.1 98 4 = jI R.1 → (R.1 = -1 → LPd τ R.2.1) → Q none τ) : MW l G (d + 7) mX12_readPolicy [.ref 98] σ Q := by
  have h1 := hT.1
  have fin : ∀ (τ : Mm) (f : Int), (∀ c, c ≠ 98 → c ≠ 104 → τ.1 c = σ.1 c) → τ.2 = σ.2 → (∀ k, k ≠ 3 → k ≠ 4 → k ≠ 15 → k ≠ 18 → k ≠ 19 → τ.1 98 k = σ.1 98 k) → τ.1 98 4 = jI f → f ≠ -1 → R31 f → R.1 = f → Wp l G (d + 7) mX12_readPolicy 43 [(0, .ref 98)] [] τ Q := by
    intro τ f e1 e2 e3 e4 nf rf he
    refine wX12_readPolicy [] 40 ?_
    refine breq f (-1) (fun q => absurd q nf) (fun _ => ?_) (hx := e4) (hy := rfl)
    exact hq τ e1 e2 e3 (by rw [he]; exact e4) (fun z => absurd (he.symm.trans z) nf)
  have next : ∀ (m : Nat), (∀ (p : Nat) (L : Pl) (τ : Mm) (Q' : Po), T.n < p + m → p ≤ T.n → (∀ c, c ≠ 98 → c ≠ 104 → τ.1 c = σ.1 c) → τ.2 = σ.2 → (∀ k, k ≠ 3 → k ≠ 15 → k ≠ 18 → k ≠ 19 → τ.1 98 k = σ.1 98 k) → τ.1 98 3 = jI (p : Int) → LPd τ L → PW 2 0 L (plB 0) → R = clF T 2 m p 0 L (plB 0) → (∀ (ρ : Mm), Wp l G (d + 7) mX12_readPolicy 9 [(0, .ref 98)] [] ρ Q → Q' none ρ) → MW l G (d + 6) mX12_deedClause [.ref 98] τ Q') := by
    intro m
    induction m with
    | zero => intro p L τ Q' hm hp; omega
    | succ m ih =>
      intro p L τ Q' hm hp e1 e2 e3 e4 hL hW he hQ
      have hk := sk_in hp
      have ci9 := ch_in T (sk T p)
      have kv := kdW_v ci9
      have f4 : τ.1 98 4 = -1 := by rw [e3 4 (by decide) (by decide) (by decide) (by decide)]; exact hf
      have Tt : TM τ T := hT.fr (e3 2 (by decide) (by decide) (by decide) (by decide)) (e1 99 (by decide) (by decide))
      have hl3 := hW.2.2 3 (by omega) (by omega)
      have li3 : limB 3 = 24 := rfl
      have hok : clOk 2 0 L (kdW (ch T (sk T p))) ↔ (ch T (sk T p) = 112 ∧ (fl 3 L).length < 24) := by
        constructor
        · intro q
          have q3 := q.2.1.2 rfl
          have q4 := q.2.2
          rw [q3] at q4
          have q4 : (fl 3 L).length < 24 := q4
          refine ⟨?_, q4⟩
          rw [q3] at kv
          by_cases z : ch T (sk T p) = 112
          · exact z
          · exfalso
            rw [if_neg z] at kv
            split at kv <;> (try split at kv) <;> (try split at kv) <;> omega
        · intro q
          rw [q.1, if_neg (by decide), if_neg (by decide), if_neg (by decide), if_pos rfl] at kv
          rw [q.1, kv]
          exact ⟨by decide, by decide, q.2⟩
      unfold clF at he
      refine c_deedClause hG p (fl 3 L).length Tt hp e4 f4 (by omega) hL.1 (fun no ρ g1 g2 g3 g30 g4 => hQ _ ?_) (fun ok ρ g1 g2 g3 g15 g4 g5 g6 g7 => hQ _ ?_)
      · rw [if_pos (fun q => no (hok.1 q))] at he
        refine wX12_readPolicy [(43, [0])] 20 ?_
        refine breq (sk T p : Int) (-1) (fun q => by omega) (fun _ => ?_) (hx := g4) (hy := rfl)
        exact fin ρ (sk T p : Int) (fun c k1 k2 => (g1 c k1).trans (e1 c k1 k2)) (g2.trans e2) (fun k k1 k2 k3 k5 k6 => (g3 k k1 k2).trans (e3 k k1 k3 k5 k6)) g4 (by omega) (by omega) (by rw [he])
      · have ok' := hok.2 ok
        have hk3 : kdW (ch T (sk T p)) = ((3 : Nat) : Int) := ok'.2.1.2 rfl
        have hpn : sk T p < T.n := by
          by_cases q : sk T p < T.n
          · exact q
          · have := ok.1
            unfold ch at this
            rw [if_neg q] at this
            omega
        rw [if_neg (fun q => q ok'), hk3, show ((3 : Nat) : Int).toNat = 3 from rfl] at he
        rw [hk3] at ok'
        have edc : dcF T p = clI T 3 (sk T p) (plB 0) := by
          unfold dcF clI
          rw [if_neg (by decide), plB3]
        rw [edc] at g4 g5 g6
        have ci := clI_in (T := T) (r := plB 0) (show 3 < 4 by omega) hpn
        have q1 : ∀ c, c ≠ 98 → c ≠ 104 → ρ.1 c = σ.1 c := fun c k1 k2 => (g1 c k1 k2).trans (e1 c k1 k2)
        have q3 : ∀ k, k ≠ 3 → k ≠ 4 → k ≠ 15 → k ≠ 18 → k ≠ 19 → ρ.1 98 k = σ.1 98 k := fun k k1 k2 k3 k5 k6 => (g3 k k1 k2 k3 k5 k6).trans (e3 k k1 k3 k5 k6)
        have e3w : szB 3 = 3 := rfl
        have e104 : rR 3 = 104 := rfl
        have g9 : LPd ρ (plA 3 L (clI T 3 (sk T p) (plB 0)).2.2) := by
          show LPd ρ (L ++ [(3, (clI T 3 (sk T p) (plB 0)).2.2)])
          refine ⟨?_, hL.2.add (by omega) (fun j hj => ?_) (fun w hw => ?_)⟩
          · rw [g15, fl_app, if_pos rfl, List.length_append]
            rfl
          · rw [e3w] at hj
            rw [e104]
            exact g7 j hj
          · rw [e104, e3w]
            exact g6 w hw
        by_cases zf : (clI T 3 (sk T p) (plB 0)).2.1 = -1
        · rw [zf] at g5
          have g5 : ρ.1 98 4 = -1 := g5
          have Tr : TM ρ T := hT.fr (q3 2 (by decide) (by decide) (by decide) (by decide) (by decide)) (q1 99 (by decide) (by decide))
          have isk : sk T (clI T 3 (sk T p) (plB 0)).1 = (clI T 3 (sk T p) (plB 0)).1 := by
            have h := itF_in T 3 (by omega) (T.n + 1 - (sk T p + 1)) (sk T p + 1) 0 (if 3 = 0 then plB 0 else plB 3) (by omega) (by omega)
            exact (h.2.2 zf).1
          obtain ⟨e, hee⟩ : ∃ e, e = (clI T 3 (sk T p) (plB 0)).1 := ⟨_, rfl⟩
          rw [← hee] at g4 isk
          have ce := ch_in T e
          have he2 : e ≤ T.n := by omega
          have ide : uI ρ 98 3 (jI (e : Int)) = ρ := uI_id g4
          refine wX12_readPolicy [(43, [0]), (9, [0])] 60 ?_
          refine And.intro (fun _ => ?_) (fun q => absurd g5 q)
          refine c_look (T.n - e) e rfl Tr he2 g4 ?_
          rw [isk, ide]
          refine breq (ch T e) 59 (fun z => ?_) (fun z => ?_) (hx := rfl) (hy := rfl)
          · have hen : e < T.n := by
              by_cases q : e < T.n
              · exact q
              · unfold ch at z
                rw [if_neg q] at z
                omega
            have hg : itG T (clI T 3 (sk T p) (plB 0)) = -1 := by
              unfold itG
              rw [if_neg (fun q => q zf), ← hee, if_neg (fun q => q.2 z)]
            have hPW := clStep hW (show 3 < 4 by omega) ok' hpn hg
            rw [if_neg (fun q => q hg), ← hee, if_pos hen, if_neg (by decide)] at he
            rw [if_neg (by decide)] at hPW
            have hn8 : ∀ c, c ≠ 98 → (uI ρ 98 3 (ρ.1 98 3 + 1)).1 c = ρ.1 c := fun c hc => uI_n hc
            refine ih (e + 1) _ _ _ (by omega) (by omega) (fun c k1 k2 => by rw [hn8 c k1]; exact q1 c k1 k2) (g2.trans e2) (fun k k1 k3 k5 k6 => ?_) (by rw [uI_at, g4]; simp only [jlit, jadd]; congr 1) ?_ hPW he (fun ρ' h => h)
            · rw [uI_ne (Or.inr k1)]
              by_cases k2 : k = 4
              · rw [k2, g5, hf]
              · exact q3 k k1 k2 k3 k5 k6
            · exact ⟨by rw [uI_ne (Or.inr (by decide))]; exact g9.1, g9.2.fr (hn8 _ (by decide))⟩
          · refine wX12_readPolicy [] 40 ?_
            refine And.intro (fun _ => ?_) (fun q => absurd g5 q)
            refine c_look (T.n - e) e rfl Tr he2 g4 ?_
            rw [isk, ide]
            refine breq (ch T e) (-1) (fun z2 => ?_) (fun z2 => ?_) (hx := rfl) (hy := rfl)
            · have hen : ¬ e < T.n := by
                intro q
                unfold ch at z2
                rw [if_pos q] at z2
                have := bt_in T e
                omega
              have hg : itG T (clI T 3 (sk T p) (plB 0)) = -1 := by
                unfold itG
                rw [if_neg (fun q => q zf), ← hee, if_neg (fun q => hen q.1)]
              rw [if_neg (fun q => q hg), ← hee, if_neg hen] at he
              exact hq ρ q1 (g2.trans e2) q3 (by rw [he]; exact g5) (fun _ => by rw [he]; exact g9)
            · have hen : e < T.n := by
                by_cases q : e < T.n
                · exact q
                · exfalso
                  apply z2
                  unfold ch
                  rw [if_neg q]
              have hg : itG T (clI T 3 (sk T p) (plB 0)) = (e : Int) := by
                unfold itG
                rw [if_neg (fun q => q zf), ← hee, if_pos ⟨hen, z⟩]
              rw [if_pos (by rw [hg]; omega), hg] at he
              refine c_fails _ g4 g5 ?_
              exact hq _ (fun c k1 k2 => by rw [uI_n k1]; exact q1 c k1 k2) (g2.trans e2) (fun k k1 k2 k3 k5 k6 => by rw [uI_ne (Or.inr k2)]; exact q3 k k1 k2 k3 k5 k6) (by rw [uI_at, he]) (fun z => by rw [he] at z; exact absurd (show (e : Int) = -1 from z) (by omega))
        · have hg : itG T (clI T 3 (sk T p) (plB 0)) = (clI T 3 (sk T p) (plB 0)).2.1 := by
            unfold itG
            rw [if_pos zf]
          rw [if_pos (by rw [hg]; exact zf), hg] at he
          have rf : R31 (clI T 3 (sk T p) (plB 0)).2.1 := by rw [← hg]; omega
          refine wX12_readPolicy [(43, [0])] 20 ?_
          refine breq (clI T 3 (sk T p) (plB 0)).2.1 (-1) (fun q => absurd q zf) (fun _ => ?_) (hx := g5) (hy := rfl)
          exact fin ρ _ q1 (g2.trans e2) q3 g5 zf rf (by rw [he])
  refine vX12_readPolicy [(9, [0])] 20 ?_
  refine next (T.n + 1) 0 [] _ _ (by omega) (by omega) (fun c k1 _ => by rw [uI_n k1]) rfl (fun k _ k2 _ _ => by rw [uI_ne (Or.inr k2)]) (by rw [uI_ne (Or.inr (by decide))]; exact ha) ⟨by rw [uI_at]; rfl, fun j q hj => by simp [fl] at hj⟩ ⟨⟨by omega, bdB_pl 0 (by omega)⟩, fun q hq9 => by simp at hq9, fun s _ _ => by show 0 ≤ _; omega⟩ hR (fun ρ h => h)
end MRl
