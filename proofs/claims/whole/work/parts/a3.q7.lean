-- clauses of a loan: the reference
theorem kdW_v {c : Int} (hc : -1 ≤ c ∧ c ≤ 255) : kdW c = if c = 108 then 0 else if c = 105 then 1 else if c = 120 then 2 else if c = 112 then 3 else -1 := by
  have e : ∀ z : Int, R31 z → (jI z = jI c ↔ c = z) := fun z hz => by rw [jeq hz (by omega)]; exact ⟨fun h => h.symm, fun h => h.symm⟩
  show (if (108 : Int32) = jI c then ((0 : Nat) : Int) else if (105 : Int32) = jI c then ((1 : Nat) : Int) else if (120 : Int32) = jI c then ((2 : Nat) : Int) else if (112 : Int32) = jI c then ((3 : Nat) : Int) else -1) = _
  have e1 := e 108 (by omega)
  have e2 := e 105 (by omega)
  have e3 := e 120 (by omega)
  have e4 := e 112 (by omega)
  rw [show (108 : Int32) = jI 108 from rfl, show (105 : Int32) = jI 105 from rfl, show (120 : Int32) = jI 120 from rfl, show (112 : Int32) = jI 112 from rfl]
  simp only [e1, e2, e3, e4]
  rfl
/-- where the numbers of a sort of clause lie -/
def rR (s : Nat) : Nat := if s = 1 then 102 else if s = 2 then 103 else 104
def LR (σ : Mm) (s : Nat) (L : Pl) : Prop := ∀ j q, (fl s L)[j]? = some q → ∀ w, w < szB s → σ.1 (rR s) (szB s * j + w) = jI (q.2 w)
def LM (σ : Mm) (L : Pl) (r : Nat → Int) : Prop := σ.1 98 13 = jI ((fl 1 L).length : Int) ∧ σ.1 98 14 = jI ((fl 2 L).length : Int) ∧ (∀ j, j < 14 → σ.1 100 j = jI (r j)) ∧ LR σ 1 L ∧ LR σ 2 L
theorem LR.fr {σ τ : Mm} {s : Nat} {L : Pl} (h : LR σ s L) (e : τ.1 (rR s) = σ.1 (rR s)) : LR τ s L := fun j q hj w hw => by rw [e]; exact h j q hj w hw
theorem LR.add {σ τ : Mm} {s : Nat} {L : Pl} {v : Nat → Int} (h : LR σ s L) (hs : 1 ≤ s) (h1 : ∀ j, j < szB s * (fl s L).length → τ.1 (rR s) j = σ.1 (rR s) j) (h2 : ∀ w, w < szB s → τ.1 (rR s) (szB s * (fl s L).length + w) = jI (v w)) : LR τ s (L ++ [(s, v)]) := by
  intro j q hj w hw
  rw [fl_app, if_pos rfl] at hj
  by_cases hi : j < (fl s L).length
  · rw [List.getElem?_append_left hi] at hj
    rw [h1]
    · exact h j q hj w hw
    · have : szB s * (j + 1) ≤ szB s * (fl s L).length := Nat.mul_le_mul_left _ hi
      rw [Nat.mul_succ] at this
      omega
  · rw [List.getElem?_append_right (by omega)] at hj
    have hi0 : j - (fl s L).length = 0 := by
      have := (List.getElem?_eq_some_iff.mp hj).1
      have e1 : [(s, v)].length = 1 := rfl
      omega
    rw [hi0] at hj
    have hj : (s, v) = q := Option.some.inj hj
    rw [show j = (fl s L).length by omega, ← hj]
    exact h2 w hw
theorem LR.ap {σ : Mm} {s s' : Nat} {L : Pl} {v : Nat → Int} (h : LR σ s L) (hs : s' ≠ s) : LR σ s (L ++ [(s', v)]) := by
  intro j q hj w hw
  rw [fl_app, if_neg hs] at hj
  exact h j q hj w hw
section MCl
variable {l : Launch} {G : GT} {d : Nat} {σ : Mm} {Q : Po} {T : Tp}
theorem c_clause {x : Int32} (hG : GX G) (p had : Nat) (L : Pl) (r : Nat → Int) (hT : TM σ T) (hp : p ≤ T.n) (ha : σ.1 98 3 = jI (p : Int)) (hf : σ.1 98 4 = -1) (hL : LM σ L r) (hW : PW 0 had L r)
    (hq1 : ¬ clOk 0 had L (kdW (ch T (sk T p))) → ∀ τ : Mm, (∀ c, c ≠ 98 → τ.1 c = σ.1 c) → τ.2 = σ.2 → (∀ k, k ≠ 3 → k ≠ 4 → τ.1 98 k = σ.1 98 k) → τ.1 98 4 = jI (sk T p : Int) → Q (some (.int x)) τ)
    (hq : ∀ s : Nat, s < 3 → sk T p < T.n → kdW (ch T (sk T p)) = (s : Int) → clOk 0 had L (s : Int) → ∀ τ : Mm, (∀ c, c ≠ 98 → c ≠ 100 → c ≠ 102 → c ≠ 103 → τ.1 c = σ.1 c) → τ.2 = σ.2 → (∀ k, k ≠ 3 → k ≠ 4 → k ≠ 13 → k ≠ 14 → k ≠ 18 → k ≠ 19 → τ.1 98 k = σ.1 98 k) → τ.1 98 3 = jI ((clI T s (sk T p) r).1 : Int) → τ.1 98 4 = jI (clI T s (sk T p) r).2.1 → LM τ (plA s L (clI T s (sk T p) r).2.2) (if s = 0 then (clI T s (sk T p) r).2.2 else r) → Q (some (.int (jI ((if s = 0 then 1 else had : Nat) : Int)))) τ)
    (ex : x = jI (had : Int) := by first | rfl | assumption | (simp only [jlit, jneg, jadd, jsub, jmul]; done) | (simp only [jlit, jneg, jadd, jsub, jmul]; congr 1 <;> omega) | (congr 1 <;> omega)) : MW l G (d + 6) mX12_clause [.ref 98, .int x] σ Q := by
  have h1 := hT.1
  have hk := sk_in hp
  have ci := ch_in T (sk T p)
  have kv := kdW_v ci
  have hd2 := hW.1.1
  have hl1 := hW.2.2 1 (by omega) (by omega)
  have hl2 := hW.2.2 2 (by omega) (by omega)
  have li1 : limB 1 = 12 := rfl
  have li2 : limB 2 = 16 := rfl
  have hx01 : x = 0 ∨ x = 1 := by
    have : had = 0 ∨ had = 1 := by omega
    rcases this with q | q
    · exact Or.inl (by rw [ex, q]; rfl)
    · exact Or.inr (by rw [ex, q]; rfl)
  obtain ⟨σ1, hσ1⟩ : ∃ σ1, σ1 = uI σ 98 3 (jI (sk T p : Int)) := ⟨_, rfl⟩
  have s3 : σ1.1 98 3 = jI (sk T p : Int) := by rw [hσ1, uI_at]
  have sk9 : ∀ k, k ≠ 3 → σ1.1 98 k = σ.1 98 k := fun k hk => by rw [hσ1, uI_ne (Or.inr hk)]
  have sc9 : ∀ c, c ≠ 98 → σ1.1 c = σ.1 c := fun c hc => by rw [hσ1, uI_n hc]
  have s29 : σ1.2 = σ.2 := by rw [hσ1]; rfl
  have s13 : σ1.1 98 13 = jI ((fl 1 L).length : Int) := by rw [sk9 13 (by decide)]; exact hL.1
  have s14 : σ1.1 98 14 = jI ((fl 2 L).length : Int) := by rw [sk9 14 (by decide)]; exact hL.2.1
  have bad : ¬ clOk 0 had L (kdW (ch T (sk T p))) → Wp l G (d + 6) mX12_clause 71 [(0, .ref 98), (1, .int x)] [] σ1 Q := by
    intro no
    refine wX12_clause [] 20 ?_
    refine c_fails _ s3 (by rw [sk9 4 (by decide)]; exact hf) ?_
    refine And.intro hx01 ?_
    exact hq1 no _ (fun c hc => by rw [uI_n hc]; exact sc9 c hc) s29 (fun k k1 k2 => by rw [uI_ne (Or.inr k2)]; exact sk9 k k1) (uI_at _ _ _ _)
  have good : ∀ s : Nat, s < 3 → kdW (ch T (sk T p)) = (s : Int) → clOk 0 had L (s : Int) → Wp l G (d + 6) mX12_clause 77 [(0, .ref 98), (1, .int x), (2, .int (jI (ch T (sk T p))))] [] σ1 Q := by
    intro s hs hks ok
    have hpn : sk T p < T.n := by
      by_cases q : sk T p < T.n
      · exact q
      · exfalso
        have hc9 : ch T (sk T p) = -1 := by unfold ch; rw [if_neg q]
        rw [hc9, kdW_end.1] at hks
        omega
    have hq := hq s hs hpn hks ok
    have okc := ok.2.2
    rw [show ((s : Nat) : Int).toNat = s from Int.toNat_natCast s] at okc
    obtain ⟨σ2, h2⟩ : ∃ σ2, σ2 = uI σ1 98 3 (σ1.1 98 3 + 1) := ⟨_, rfl⟩
    have a3 : σ2.1 98 3 = jI ((sk T p + 1 : Nat) : Int) := by
      rw [h2, uI_at, s3]
      simp only [jlit, jadd]
      congr 1
    have ak : ∀ k, k ≠ 3 → σ2.1 98 k = σ.1 98 k := fun k hk => by rw [h2, uI_ne (Or.inr hk), sk9 k hk]
    have ac : ∀ c, c ≠ 98 → σ2.1 c = σ.1 c := fun c hc => by rw [h2, uI_n hc, sc9 c hc]
    have a2 : σ2.2 = σ.2 := by rw [h2]; exact s29
    rw [hks] at kv
    have h012 : s = 0 ∨ s = 1 ∨ s = 2 := by omega
    rcases h012 with rfl | rfl | rfl
    · have hc8 : ch T (sk T p) = 108 := by
        by_cases q : ch T (sk T p) = 108
        · exact q
        · rw [if_neg q] at kv
          split at kv <;> (try split at kv) <;> (try split at kv) <;> omega
      refine wX12_clause [] 60 ?_
      refine breq (ch T (sk T p)) 108 (fun _ => ?_) (fun q => absurd hc8 q) (hx := rfl) (hy := rfl)
      refine And.intro hG ?_
      rw [← h2]
      refine c_items (R := 100) hG 0 0 (sk T p + 1) r (by omega) (Or.inl rfl) (by show 0 + 14 ≤ 14; omega) (hT.fr (ak 2 (by decide)) (ac 99 (by decide))) (by omega) a3 (by rw [ak 4 (by decide)]; exact hf) (fun j hj => by rw [Nat.zero_add, ac 100 (by decide)]; exact hL.2.2.1 j hj) (fun τ p1 p2 p3 p4 p5 p6 p7 => ?_)
      have e100 : rR 1 = 102 ∧ rR 2 = 103 := ⟨rfl, rfl⟩
      refine And.intro (Or.inr rfl) ?_
      refine hq τ (fun c k1 k2 _ _ => (p1 c k1 k2).trans (ac c k1)) (p2.trans a2) (fun k k1 k2 _ _ k5 k6 => by rw [p3 k k1 k2 k5 k6, ak k k1]) p4 p5 ⟨?_, ?_, ?_, ?_, ?_⟩
      · rw [p3 13 (by decide) (by decide) (by decide) (by decide), ak 13 (by decide)]; exact hL.1
      · rw [p3 14 (by decide) (by decide) (by decide) (by decide), ak 14 (by decide)]; exact hL.2.1
      · intro j hj
        have := p6 j hj
        rw [Nat.zero_add] at this
        exact this
      · exact hL.2.2.2.1.fr (by rw [e100.1, p1 102 (by decide) (by decide), ac 102 (by decide)])
      · exact hL.2.2.2.2.fr (by rw [e100.2, p1 103 (by decide) (by decide), ac 103 (by decide)])
    · have hc8 : ch T (sk T p) ≠ 108 := fun q => by rw [if_pos q] at kv; omega
      have hc5 : ch T (sk T p) = 105 := by
        by_cases q : ch T (sk T p) = 105
        · exact q
        · rw [if_neg hc8, if_neg q] at kv
          split at kv <;> (try split at kv) <;> omega
      have hn : (fl 1 L).length < 12 := okc
      obtain ⟨n, hnn⟩ : ∃ n, n = (fl 1 L).length := ⟨_, rfl⟩
      rw [← hnn] at hn
      have a13 : σ2.1 98 13 = jI (n : Int) := by rw [ak 13 (by decide), hnn]; exact hL.1
      refine wX12_clause [] 80 ?_
      refine breq (ch T (sk T p)) 108 (fun q => absurd q hc8) (fun _ => ?_) (hx := rfl) (hy := rfl)
      refine breq (ch T (sk T p)) 105 (fun _ => ?_) (fun q => absurd hc5 q) (hx := rfl) (hy := rfl)
      rw [← h2]
      refine stI 24 (2 * n + 0) ?_ (hi := by rw [a13]; simp only [jlit, jmul]; congr 1)
      refine stI 24 (2 * n + 1) ?_ (hi := by rw [uI_n (by decide), a13]; simp only [jlit, jmul, jadd]; congr 1)
      refine And.intro hG ?_
      obtain ⟨σ3, h3⟩ : ∃ σ3, σ3 = uI (uI σ2 102 (2 * n + 0) 1) 102 (2 * n + 1) 0 := ⟨_, rfl⟩
      rw [← h3]
      obtain ⟨σ4, h4⟩ : ∃ σ4, σ4 = uI σ3 98 13 (σ3.1 98 13 + 1) := ⟨_, rfl⟩
      rw [← h4]
      have c98 : σ3.1 98 = σ2.1 98 := by rw [h3, uI_n (by decide), uI_n (by decide)]
      have d13 : σ4.1 98 13 = jI ((n + 1 : Nat) : Int) := by
        rw [h4, uI_at, c98, a13]
        simp only [jlit, jadd]
        congr 1
      have dk : ∀ k, k ≠ 3 → k ≠ 13 → σ4.1 98 k = σ.1 98 k := fun k k1 k2 => by rw [h4, uI_ne (Or.inr k2), c98, ak k k1]
      have dc : ∀ c, c ≠ 98 → c ≠ 102 → σ4.1 c = σ.1 c := fun c k1 k2 => by rw [h4, uI_n k1, h3, uI_n k2, uI_n k2]; exact ac c k1
      have d0 : ∀ j, j < 2 → σ4.1 102 (2 * n + j) = jI (plB 1 j) := fun j hj => by
        rw [h4, uI_n (by decide), h3]
        by_cases q1 : j = 1
        · rw [q1, uI_at]; rfl
        · rw [uI_ne (Or.inr (by omega)), show j = 0 by omega, uI_at]; rfl
      have dl : ∀ j, j < 2 * n → σ4.1 102 j = σ.1 102 j := fun j hj => by
        rw [h4, uI_n (by decide), h3, uI_ne (Or.inr (by omega)), uI_ne (Or.inr (by omega)), ac 102 (by decide)]
      refine c_items (R := 102) hG 1 (2 * n) (sk T p + 1) (plB 1) (by omega) (Or.inr (Or.inl rfl)) (by show 2 * n + 2 ≤ 24; omega) (hT.fr (dk 2 (by decide) (by decide)) (dc 99 (by decide) (by decide))) (by omega) (by rw [h4, uI_ne (Or.inr (by decide)), c98]; exact a3) (by rw [dk 4 (by decide) (by decide)]; exact hf) d0 (fun τ p1 p2 p3 p4 p5 p6 p7 => ?_) (ex := by rw [d13]; simp only [jlit, jsub, jmul]; congr 1; omega)
      have e2 : szB 1 = 2 := rfl
      have e102 : rR 1 = 102 := rfl
      have e103 : rR 2 = 103 := rfl
      have ev := hq τ (fun c k1 _ k3 _ => (p1 c k1 k3).trans (dc c k1 k3)) (p2.trans (by rw [h4, h3]; exact a2)) (fun k k1 k2 k3 _ k5 k6 => by rw [p3 k k1 k2 k5 k6, dk k k1 k3]) p4 p5 ⟨?_, ?_, ?_, ?_, ?_⟩
      · refine And.intro hx01 ?_
        have ev' : Q (some (.int x)) τ := by rw [ex]; exact ev
        exact ev'
      · rw [p3 13 (by decide) (by decide) (by decide) (by decide), d13]
        show _ = jI ((fl 1 (L ++ [(1, (clI T 1 (sk T p) r).2.2)])).length : Int)
        rw [fl_app, if_pos rfl, List.length_append, hnn]
        rfl
      · rw [p3 14 (by decide) (by decide) (by decide) (by decide), dk 14 (by decide) (by decide)]
        show _ = jI ((fl 2 (L ++ [(1, (clI T 1 (sk T p) r).2.2)])).length : Int)
        rw [fl_app, if_neg (show ¬ (1 : Nat) = 2 by decide)]
        exact hL.2.1
      · intro j hj
        rw [p1 100 (by decide) (by decide), dc 100 (by decide) (by decide)]
        exact hL.2.2.1 j hj
      · show LR τ 1 (L ++ [(1, (clI T 1 (sk T p) r).2.2)])
        refine hL.2.2.2.1.add (by omega) (fun j hj => ?_) (fun w hw => ?_)
        · rw [e2, ← hnn] at hj
          rw [e102, p7 j (by omega)]
          exact dl j hj
        · rw [e102, e2, ← hnn]
          exact p6 w hw
      · show LR τ 2 (L ++ [(1, (clI T 1 (sk T p) r).2.2)])
        exact (hL.2.2.2.2.fr (by rw [e103, p1 103 (by decide) (by decide), dc 103 (by decide) (by decide)])).ap (by decide)
    · have hc8 : ch T (sk T p) ≠ 108 := fun q => by rw [if_pos q] at kv; omega
      have hc5 : ch T (sk T p) ≠ 105 := fun q => by rw [if_neg hc8, if_pos q] at kv; omega
      have hn : (fl 2 L).length < 16 := okc
      obtain ⟨n, hnn⟩ : ∃ n, n = (fl 2 L).length := ⟨_, rfl⟩
      rw [← hnn] at hn
      have a14 : σ2.1 98 14 = jI (n : Int) := by rw [ak 14 (by decide), hnn]; exact hL.2.1
      have b14 : ∀ (j : Nat) (u : Int32) (ρ : Mm), ρ.1 98 14 = jI (n : Int) → (uI ρ 103 j u).1 98 14 = jI (n : Int) := fun j u ρ h => by rw [uI_n (by decide)]; exact h
      refine wX12_clause [] 120 ?_
      refine breq (ch T (sk T p)) 108 (fun q => absurd q hc8) (fun _ => ?_) (hx := rfl) (hy := rfl)
      refine breq (ch T (sk T p)) 105 (fun q => absurd q hc5) (fun _ => ?_) (hx := rfl) (hy := rfl)
      refine brle 3 0 (fun q => by omega) (fun _ => ?_) (hx := rfl) (hy := rfl)
      rw [← h2]
      refine stI 48 (3 * n + 0) ?_ (hi := by rw [a14]; simp only [jlit, jadd, jmul]; congr 1)
      refine brle 3 1 (fun q => by omega) (fun _ => ?_) (hx := rfl) (hy := rfl)
      refine stI 48 (3 * n + 1) ?_ (hi := by rw [b14 _ _ _ a14]; simp only [jlit, jadd, jmul]; congr 1)
      refine brle 3 2 (fun q => by omega) (fun _ => ?_) (hx := rfl) (hy := rfl)
      refine stI 48 (3 * n + 2) ?_ (hi := by rw [b14 _ _ _ (b14 _ _ _ a14)]; simp only [jlit, jadd, jmul]; congr 1)
      refine brle 3 3 (fun _ => ?_) (fun q => by omega) (hx := rfl) (hy := rfl)
      obtain ⟨σ3, h3⟩ : ∃ σ3, σ3 = uI (uI (uI σ2 103 (3 * n + 0) 0) 103 (3 * n + 1) 0) 103 (3 * n + 2) 0 := ⟨_, rfl⟩
      rw [← h3]
      have c98 : σ3.1 98 = σ2.1 98 := by rw [h3, uI_n (by decide), uI_n (by decide), uI_n (by decide)]
      refine And.intro hG ?_
      obtain ⟨σ4, h4⟩ : ∃ σ4, σ4 = uI σ3 98 14 (σ3.1 98 14 + 1) := ⟨_, rfl⟩
      rw [← h4]
      have d14 : σ4.1 98 14 = jI ((n + 1 : Nat) : Int) := by
        rw [h4, uI_at, c98, a14]
        simp only [jlit, jadd]
        congr 1
      have dk : ∀ k, k ≠ 3 → k ≠ 14 → σ4.1 98 k = σ.1 98 k := fun k k1 k2 => by rw [h4, uI_ne (Or.inr k2), c98, ak k k1]
      have dc : ∀ c, c ≠ 98 → c ≠ 103 → σ4.1 c = σ.1 c := fun c k1 k2 => by rw [h4, uI_n k1, h3, uI_n k2, uI_n k2, uI_n k2]; exact ac c k1
      have d0 : ∀ j, j < 3 → σ4.1 103 (3 * n + j) = jI (plB 2 j) := fun j hj => by
        rw [h4, uI_n (by decide), h3]
        by_cases q2 : j = 2
        · rw [q2, uI_at]; rfl
        · rw [uI_ne (Or.inr (by omega))]
          by_cases q1 : j = 1
          · rw [q1, uI_at]; rfl
          · rw [uI_ne (Or.inr (by omega)), show j = 0 by omega, uI_at]; rfl
      have dl : ∀ j, j < 3 * n → σ4.1 103 j = σ.1 103 j := fun j hj => by
        rw [h4, uI_n (by decide), h3, uI_ne (Or.inr (by omega)), uI_ne (Or.inr (by omega)), uI_ne (Or.inr (by omega)), ac 103 (by decide)]
      refine c_items (R := 103) hG 2 (3 * n) (sk T p + 1) (plB 2) (by omega) (Or.inr (Or.inr (Or.inl rfl))) (by show 3 * n + 3 ≤ 48; omega) (hT.fr (dk 2 (by decide) (by decide)) (dc 99 (by decide) (by decide))) (by omega) (by rw [h4, uI_ne (Or.inr (by decide)), c98]; exact a3) (by rw [dk 4 (by decide) (by decide)]; exact hf) d0 (fun τ p1 p2 p3 p4 p5 p6 p7 => ?_) (ex := by rw [d14]; simp only [jlit, jsub, jmul]; congr 1; omega)
      have e2 : szB 2 = 3 := rfl
      have e102 : rR 1 = 102 := rfl
      have e103 : rR 2 = 103 := rfl
      have ev := hq τ (fun c k1 _ _ k4 => (p1 c k1 k4).trans (dc c k1 k4)) (p2.trans (by rw [h4, h3]; exact a2)) (fun k k1 k2 _ k4 k5 k6 => by rw [p3 k k1 k2 k5 k6, dk k k1 k4]) p4 p5 ⟨?_, ?_, ?_, ?_, ?_⟩
      · refine And.intro hx01 ?_
        have ev' : Q (some (.int x)) τ := by rw [ex]; exact ev
        exact ev'
      · rw [p3 13 (by decide) (by decide) (by decide) (by decide), dk 13 (by decide) (by decide)]
        show _ = jI ((fl 1 (L ++ [(2, (clI T 2 (sk T p) r).2.2)])).length : Int)
        rw [fl_app, if_neg (show ¬ (2 : Nat) = 1 by decide)]
        exact hL.1
      · rw [p3 14 (by decide) (by decide) (by decide) (by decide), d14]
        show _ = jI ((fl 2 (L ++ [(2, (clI T 2 (sk T p) r).2.2)])).length : Int)
        rw [fl_app, if_pos rfl, List.length_append, hnn]
        rfl
      · intro j hj
        rw [p1 100 (by decide) (by decide), dc 100 (by decide) (by decide)]
        exact hL.2.2.1 j hj
      · show LR τ 1 (L ++ [(2, (clI T 2 (sk T p) r).2.2)])
        exact (hL.2.2.2.1.fr (by rw [e102, p1 102 (by decide) (by decide), dc 102 (by decide) (by decide)])).ap (by decide)
      · show LR τ 2 (L ++ [(2, (clI T 2 (sk T p) r).2.2)])
        refine hL.2.2.2.2.add (by omega) (fun j hj => ?_) (fun w hw => ?_)
        · rw [e2, ← hnn] at hj
          rw [e103, p7 j (by omega)]
          exact dl j hj
        · rw [e103, e2, ← hnn]
          exact p6 w hw
  refine vX12_clause [(71, [0, 1]), (77, [0, 1, 2])] 60 ?_
  refine c_look (T.n - p) p rfl hT hp ha ?_
  rw [← hσ1]
  refine breq (ch T (sk T p)) 108 (fun z => ?_) (fun z => ?_) (hx := rfl) (hy := rfl)
  · rw [if_pos z] at kv
    refine breq (had : Int) 0 (fun q => ?_) (fun q => ?_) (hx := ex) (hy := rfl)
    · refine And.intro (fun k => absurd k (by decide)) (fun _ => good 0 (by omega) kv ⟨by decide, by decide, ?_⟩)
      show cnP had L 0 < 1
      unfold cnP
      rw [if_pos rfl]
      omega
    · refine And.intro (fun _ => bad ?_) (fun k => absurd rfl k)
      rw [kv]
      intro k
      have k2 : cnP had L 0 < 1 := k.2.2
      unfold cnP at k2
      rw [if_pos rfl] at k2
      omega
  · rw [if_neg z] at kv
    refine breq (ch T (sk T p)) 105 (fun z2 => ?_) (fun z2 => ?_) (hx := rfl) (hy := rfl)
    · rw [if_pos z2] at kv
      refine brle 12 ((fl 1 L).length : Int) (fun q => ?_) (fun q => ?_) (hx := rfl) (hy := s13)
      · refine And.intro (fun _ => bad ?_) (fun k => absurd rfl k)
        rw [kv]
        intro k
        have k2 : (fl 1 L).length < 12 := k.2.2
        omega
      · refine And.intro (fun k => absurd k (by decide)) (fun _ => good 1 (by omega) kv ⟨by decide, by decide, ?_⟩)
        show (fl 1 L).length < 12
        omega
    · rw [if_neg z2] at kv
      refine breq (ch T (sk T p)) 120 (fun z3 => ?_) (fun z3 => ?_) (hx := rfl) (hy := rfl)
      · rw [if_pos z3] at kv
        refine brle 16 ((fl 2 L).length : Int) (fun q => ?_) (fun q => ?_) (hx := rfl) (hy := s14)
        · refine And.intro (fun _ => bad ?_) (fun k => absurd rfl k)
          rw [kv]
          intro k
          have k2 : (fl 2 L).length < 16 := k.2.2
          omega
        · refine And.intro (fun k => absurd k (by decide)) (fun _ => good 2 (by omega) kv ⟨by decide, by decide, ?_⟩)
          show (fl 2 L).length < 16
          omega
      · rw [if_neg z3] at kv
        refine And.intro (fun _ => bad ?_) (fun k => absurd rfl k)
        rw [kv]
        intro k
        by_cases z4 : ch T (sk T p) = 112
        · rw [if_pos z4] at k
          exact absurd (k.2.1.1 rfl) (by decide)
        · rw [if_neg z4] at k
          exact k.1 rfl
end MCl
