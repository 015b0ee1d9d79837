-- a clause's items and clauses: the class
theorem clI_in {T : Tp} {s p : Nat} {r : Nat → Int} (hs : s < 4) (hp : p < T.n) : (p < (clI T s p r).1 ∧ (clI T s p r).1 ≤ T.n) ∧ (-1 ≤ itG T (clI T s p r) ∧ itG T (clI T s p r) ≤ T.n) ∧ (itG T (clI T s p r) = -1 → (clI T s p r).2.1 = -1 ∧ sk T (clI T s p r).1 = (clI T s p r).1 ∧ ((clI T s p r).1 < T.n → ch T (clI T s p r).1 = 59) ∧ (bdB 0 r → bdB s (clI T s p r).2.2)) := by
  have h := itF_in T s hs (T.n + 1 - (p + 1)) (p + 1) 0 (if s = 0 then r else plB s) (by omega) (by omega)
  unfold clI
  generalize itF T s (T.n + 1 - (p + 1)) (p + 1) 0 (if s = 0 then r else plB s) = E at h
  refine ⟨⟨by omega, h.1.2⟩, ?_, ?_⟩
  · unfold itG
    split
    · exact h.2.1
    · split <;> omega
  · intro z
    unfold itG at z
    by_cases q : E.2.1 = -1
    · rw [if_neg (fun k => k q)] at z
      have hd : ¬ (E.1 < T.n ∧ ch T E.1 ≠ 59) := by
        intro k
        rw [if_pos k] at z
        omega
      refine ⟨q, (h.2.2 q).1, fun k => ?_, fun hb => (h.2.2 q).2 ?_⟩
      · by_cases c : ch T E.1 = 59
        · exact c
        · exact absurd ⟨k, c⟩ hd
      · by_cases e : s = 0
        · rw [if_pos e, e]
          exact hb
        · rw [if_neg e]
          exact bdB_pl s hs
    · rw [if_pos q] at z
      exact absurd z q
theorem kdW_end : kdW (-1) = -1 ∧ kdW 0 = -1 := ⟨by decide, by decide⟩
theorem clStep {T : Tp} {b had p s : Nat} {L : Pl} {r : Nat → Int} (hP : PW b had L r) (hs : s < 4) (ho : clOk b had L (s : Int)) (hp : p < T.n) (hg : itG T (clI T s p r) = -1) : PW b (hdA s had) (plA s L (clI T s p r).2.2) (if s = 0 then (clI T s p r).2.2 else r) := by
  have h := clI_in (T := T) (r := r) hs hp
  have hb := (h.2.2 hg).2.2.2 hP.1.2
  have h3 : s = 3 ↔ b = 2 := by
    have := ho.2.1
    omega
  have hc := ho.2.2
  rw [show (s : Int).toNat = s from Int.toNat_natCast s] at hc
  unfold hdA plA
  unfold cnP at hc
  by_cases e : s = 0
  · rw [if_pos e, if_pos e, if_pos e]
    rw [if_pos e] at hc
    have : limB s = 1 := by rw [e]; rfl
    rw [e] at hb
    exact ⟨⟨by omega, by rw [e]; exact hb⟩, hP.2⟩
  · rw [if_neg e, if_neg e, if_neg e]
    rw [if_neg e] at hc
    exact hP.add ⟨by omega, hs⟩ h3 hb hc
section KCl
variable {l : Launch} {G : GT} {d : Nat} {σ : Mm} {Q : Po} {T : Tp}
theorem k_readItems {x : Int32} (hG : GX G) (s n p : Nat) (r : Nat → Int) (hs : s < 4) (hT : TK σ T) (hp : p < T.n) (ha : σ.1 8 5 = jI ((p + 1 : Nat) : Int)) (h2 : σ.1 8 2 = jI (n : Int)) (hn : 1 ≤ s → n < 28) (hr : ∀ j, j < 14 → σ.1 9 j = jI (r j))
    (hq : ∀ τ : Mm, (∀ c, c ≠ 8 → c ≠ 9 → c ≠ 10 → τ.1 c = σ.1 c) → τ.2 = σ.2 → (∀ k, k ≠ 2 → k ≠ 5 → k ≠ 6 → τ.1 8 k = σ.1 8 k) → (itG T (clI T s p r) = -1 → τ.1 8 5 = jI ((clI T s p r).1 : Int) ∧ τ.1 8 2 = jI ((if s = 0 then n else n + 1 : Nat) : Int) ∧ (∀ j, j < 14 → τ.1 9 j = jI ((if s = 0 then (clI T s p r).2.2 else r) j)) ∧ (s ≠ 0 → τ.1 10 (4 * n) = jI (s : Int) ∧ ∀ j, j < szB s → τ.1 10 (4 * n + 1 + j) = jI ((clI T s p r).2.2 j))) → (∀ j, j < 4 * n → τ.1 10 j = σ.1 10 j) → Q (some (.int (jI (itG T (clI T s p r))))) τ)
    (ex : x = jI (s : Int) := by first | rfl | assumption | (simp only [jlit, jneg, jadd, jsub, jmul]; done) | (simp only [jlit, jneg, jadd, jsub, jmul]; congr 1 <;> omega) | (congr 1 <;> omega)) : MW l G (d + 3) mX4_readItems [.ref 8, .int x] σ Q := by
  have hf := frm_at s hs
  have h1 := hT.1
  refine vX4_readItems [(18, [0, 1, 2, 3, 4, 5])] 120 ?_
  refine And.intro hG ?_
  refine And.intro hG ?_
  refine ldI (f := fun k => (stc 202).getD k 0) 5 s hf.1 ?_ (hi := ex)
  by_cases e : s = 0
  · subst e
    have st0 : ∀ Q' : Po, Q' (some (.int 0)) σ → MW l G (d + 2) mX4_startPart [.ref 8, .int x] σ Q' := by
      intro Q' h
      refine vX4_startPart [] 80 ?_
      exact breq 0 0 (fun _ => h) (fun q => absurd rfl q) (hx := ex) (hy := rfl)
    refine st0 _ ?_
    have hz : szB 0 = 14 := rfl
    refine k_itemsLoop (σ := σ) hG 0 0 (by omega) rfl (by show 0 + 14 ≤ 14; omega) hT (clI T 0 p r) ex rfl (fun τ g1 g2 g3 g4 g5 => ?_) (T.n + 1 - (p + 1)) (p + 1) 0 0 _ r σ (by omega) (by omega) (by omega) rfl (fun _ _ _ => rfl) rfl (fun _ _ _ => rfl) ha (fun j hj => by rw [Nat.zero_add]; exact hr j hj) (fun _ _ => rfl) rfl
    refine hq τ (fun c k1 k2 _ => g1 c k1 k2) g2 (fun k _ k2 k3 => g3 k k2 k3) (fun z => ?_) (fun j hj => by rw [g1 10 (by decide) (by decide)])
    refine ⟨(g4 z).1, by rw [if_pos rfl, g3 2 (by decide) (by decide)]; exact h2, fun j hj => ?_, fun q => absurd rfl q⟩
    have := (g4 z).2 j hj
    rw [Nat.zero_add] at this
    rw [if_pos rfl]
    exact this
  · have e10 : iR s = 10 := by unfold iR; rw [if_neg e]
    have hz := szB_in s
    refine k_startPart hG s n ⟨by omega, hs⟩ (hn (by omega)) h2 (fun ρ f1 f2 f3 f4 f5 f6 f7 => ?_) ex
    have Tr : TK ρ T := hT.fr (f1 6 (by decide) (by decide)) (f1 7 (by decide) (by decide))
    refine k_itemsLoop (σ := ρ) hG s (4 * n + 1) hs (by rw [if_neg e]; exact ⟨by omega, by congr 1⟩) (by rw [e10]; show _ ≤ 112; have := hn (by omega); omega) Tr (clI T s p r) ex rfl (fun τ g1 g2 g3 g4 g5 => ?_) (T.n + 1 - (p + 1)) (p + 1) 0 0 _ (plB s) ρ (by omega) (by omega) (by omega) rfl (fun _ _ _ => rfl) rfl (fun _ _ _ => rfl) (by rw [f3 5 (by decide)]; exact ha) (fun j hj => by rw [e10]; exact f6 j hj) (fun _ _ => rfl) (by unfold clI; rw [if_neg e])
    rw [e10] at g1 g4 g5
    refine hq τ (fun c k1 k2 k3 => (g1 c k1 k3).trans (f1 c k1 k3)) (g2.trans f2) (fun k k1 k2 k3 => (g3 k k2 k3).trans (f3 k k1)) (fun z => ?_) (fun j hj => by rw [g5 j (by omega)]; exact f7 j hj)
    refine ⟨(g4 z).1, by rw [if_neg e, g3 2 (by decide) (by decide)]; exact f4, fun j hj => ?_, fun _ => ⟨by rw [g5 (4 * n) (by omega)]; exact f5, (g4 z).2⟩⟩
    rw [if_neg e, g1 9 (by decide) (by decide), f1 9 (by decide) (by decide)]
    exact hr j hj
/-- the parts that the class's reader holds -/
def PK (σ : Mm) (L : Pl) : Prop := σ.1 8 2 = jI (L.length : Int) ∧ ∀ i q, L[i]? = some q → σ.1 10 (4 * i) = jI (q.1 : Int) ∧ ∀ w, w < szB q.1 → σ.1 10 (4 * i + 1 + w) = jI (q.2 w)
theorem k_readClauses {x : Int32} (hG : GX G) (b : Nat) (R : Int × Pl × (Nat → Int)) (hb : b = 0 ∨ b = 2) (hT : TK σ T)
    (hR : R = clF T b (T.n + 1) 0 0 [] (plB 0)) (ha : σ.1 8 5 = jI 0) (h2 : σ.1 8 2 = jI 0) (hc : ∀ j, j < 4 → σ.1 11 j = jI 0) (hr : ∀ j, j < 14 → σ.1 9 j = jI (plB 0 j))
    (hq : ∀ τ : Mm, (∀ c, c ≠ 8 → c ≠ 9 → c ≠ 10 → c ≠ 11 → τ.1 c = σ.1 c) → τ.2 = σ.2 → (∀ k, k ≠ 2 → k ≠ 5 → k ≠ 6 → τ.1 8 k = σ.1 8 k) → (R.1 = -1 → PK τ R.2.1 ∧ (∀ j, j < 14 → τ.1 9 j = jI (R.2.2 j)) ∧ ∃ had, PW b had R.2.1 R.2.2) → Q (some (.int (jI R.1))) τ)
    (ex : x = jI (b : Int) := by first | rfl | assumption | (simp only [jlit, jneg, jadd, jsub, jmul]; done) | (simp only [jlit, jneg, jadd, jsub, jmul]; congr 1 <;> omega) | (congr 1 <;> omega)) : MW l G (d + 4) mX4_readClauses [.ref 8, .int x] σ Q := by
  have h1 := hT.1
  have key : ∀ (m p tn had : Nat) (u : Int32) (L : Pl) (r : Nat → Int) (τ : Mm), T.n < p + m → p ≤ T.n → tn ≤ p → u = jI (tn : Int) → (∀ c, c ≠ 8 → c ≠ 9 → c ≠ 10 → c ≠ 11 → τ.1 c = σ.1 c) → τ.2 = σ.2 → (∀ k, k ≠ 2 → k ≠ 5 → k ≠ 6 → τ.1 8 k = σ.1 8 k) → τ.1 8 5 = jI (p : Int) → PK τ L → (∀ j, j < 4 → τ.1 11 j = jI (cnP had L j : Int)) → (∀ j, j < 14 → τ.1 9 j = jI (r j)) → PW b had L r → R = clF T b m p had L r → Wp l G (d + 4) mX4_readClauses 2 [(0, .ref 8), (1, .int x), (2, .int u)] [] τ Q := by
    intro m
    induction m with
    | zero => intro p tn had u L r τ hm hp; omega
    | succ m ih =>
      intro p tn had u L r τ hm hp htn hu e1 e2 e3 e4 e5 e6 e7 e8 he
      have hk := sk_in hp
      have Tt : TK τ T := hT.fr (e1 6 (by decide) (by decide) (by decide) (by decide)) (e1 7 (by decide) (by decide) (by decide) (by decide))
      have a5 := uI_at τ 8 5 (jI (sk T p : Int))
      have T5 : TK (uI τ 8 5 (jI (sk T p : Int))) T := Tt.rd
      have cc := cz_in T (sk T p)
      have hll := e8.len
      unfold clF at he
      have ekd : kdW (cz T (sk T p)) = kdW (ch T (sk T p)) := by
        by_cases q : sk T p < T.n
        · unfold cz ch
          rw [if_pos q, if_pos q]
        · unfold cz ch
          rw [if_neg q, if_neg q, kdW_end.1, kdW_end.2]
      have ki := kdW_in (ch T (sk T p))
      obtain ⟨k, hkk⟩ : ∃ k, k = kdW (ch T (sk T p)) := ⟨_, rfl⟩
      rw [← hkk] at he ki ekd
      -- no such clause
      have bad : ¬ clOk b had L k → Wp l G (d + 4) mX4_readClauses 78 [(0, .ref 8)] [] (uI τ 8 5 (jI (sk T p : Int))) Q := by
        intro no
        rw [if_pos no] at he
        refine wX4_readClauses [] 20 ?_
        have := hq (uI τ 8 5 (jI (sk T p : Int))) (fun c k1 k2 k3 k4 => by rw [uI_n k1]; exact e1 c k1 k2 k3 k4) e2 (fun k k1 k2 k3 => by rw [uI_ne (Or.inr k2)]; exact e3 k k1 k2 k3) (fun z => by rw [he] at z; exact absurd (show (sk T p : Int) = -1 from z) (by omega))
        rw [he, ← a5] at this
        exact this
      -- one
      have good : ∀ w : Int32, w = jI k → k ≠ -1 → (k = 3 ↔ b = 2) → Wp l G (d + 4) mX4_readClauses 64 [(0, .ref 8), (1, .int x), (2, .int u), (3, .int w)] [] (uI τ 8 5 (jI (sk T p : Int))) Q := by
        intro w hw n1 n3
        obtain ⟨s, hss⟩ : ∃ s : Nat, k = (s : Int) := ⟨k.toNat, by omega⟩
        have hs : s < 4 := by omega
        have hpn : sk T p < T.n := by
          by_cases q : sk T p < T.n
          · exact q
          · exfalso
            have hc9 : ch T (sk T p) = -1 := by unfold ch; rw [if_neg q]
            rw [hc9, kdW_end.1] at hkk
            omega
        rw [hss] at he
        have lim : (stc 201).getD s 0 = jI (limB s : Int) := by
          have : s = 0 ∨ s = 1 ∨ s = 2 ∨ s = 3 := by omega
          rcases this with rfl | rfl | rfl | rfl <;> decide
        have limI : limB s ≤ 24 := by unfold limB; split <;> (try split) <;> (try split) <;> omega
        have cnI : cnP had L s ≤ 100 := by
          unfold cnP
          split
          · have := e8.1.1; omega
          · have : (fl s L).length ≤ L.length := List.length_filter_le _ _
            omega
        have c6 : ∀ j, j < 4 → (uI τ 8 5 (jI (sk T p : Int))).1 11 j = jI (cnP had L j : Int) := fun j hj => by rw [uI_n (by decide)]; exact e6 j hj
        refine wX4_readClauses [(2, [0, 1, 2]), (78, [0])] 100 ?_
        refine ldI 4 s (c6 s hs) ?_ (hi := by rw [hw, hss])
        refine And.intro hG ?_
        refine And.intro hG ?_
        refine ldI (f := fun k => (stc 201).getD k 0) 4 s lim ?_ (hi := by rw [hw, hss])
        refine brlt (cnP had L s : Int) (limB s : Int) (fun z => ?_) (fun z => ?_) (hx := rfl) (hy := rfl)
        · have ok : clOk b had L (s : Int) := ⟨by omega, by rw [← hss]; exact n3, by rw [show ((s : Nat) : Int).toNat = s from Int.toNat_natCast s]; omega⟩
          rw [if_neg (fun q => q ok), show ((s : Nat) : Int).toNat = s from Int.toNat_natCast s] at he
          have ci := clI_in (T := T) (r := r) hs hpn
          refine ldI 4 s (c6 s hs) ?_ (hi := by rw [hw, hss])
          refine stI 4 s ?_ (hi := by rw [hw, hss])
          obtain ⟨ρ0, hρ0⟩ : ∃ ρ0, ρ0 = uI (uI τ 8 5 (jI (sk T p : Int))) 11 s (jI (cnP had L s : Int) + 1) := ⟨_, rfl⟩
          obtain ⟨ρ, hρ⟩ : ∃ ρ, ρ = uI ρ0 8 5 (ρ0.1 8 5 + 1) := ⟨_, rfl⟩
          have r1 : ∀ c, c ≠ 8 → c ≠ 11 → ρ.1 c = τ.1 c := fun c k1 k2 => by rw [hρ, uI_n k1, hρ0, uI_n k2, uI_n k1]
          have r2 : ρ.2 = τ.2 := by rw [hρ, hρ0]; rfl
          have r3 : ∀ k, k ≠ 5 → ρ.1 8 k = τ.1 8 k := fun k hk => by rw [hρ, uI_ne (Or.inr hk), hρ0, uI_n (by decide), uI_ne (Or.inr hk)]
          have r5 : ρ.1 8 5 = jI ((sk T p + 1 : Nat) : Int) := by
            rw [hρ, uI_at, hρ0, uI_n (by decide), a5]
            simp only [jlit, jadd]
            congr 1
          have r11 : ∀ j, j < 4 → ρ.1 11 j = jI ((if j = s then cnP had L s + 1 else cnP had L j : Nat) : Int) := fun j hj => by
            rw [hρ, uI_n (by decide), hρ0]
            by_cases q : j = s
            · rw [if_pos q, q, uI_at]
              simp only [jlit, jadd]
              congr 1
            · rw [if_neg q, uI_ne (Or.inr q)]
              exact c6 j hj
          rw [← hρ0]
          have Tr : TK ρ T := Tt.fr (r1 6 (by decide) (by decide)) (r1 7 (by decide) (by decide))
          have hn28 : 1 ≤ s → L.length < 28 := fun q => e8.lt ⟨q, hs⟩ (by rw [hss] at n3; omega) (by have := ok.2.2; rw [show ((s : Nat) : Int).toNat = s from Int.toNat_natCast s] at this; unfold cnP at this; rw [if_neg (by omega)] at this; exact this)
          subst hρ
          refine k_readItems hG s L.length (sk T p) r hs Tr hpn r5 (by rw [r3 2 (by decide)]; exact e5.1) hn28 (fun j hj => by rw [r1 9 (by decide) (by decide)]; exact e7 j hj) (fun π g1 g2 g3 g4 g5 => ?_) (by rw [hw, hss])
          have p1 : ∀ c, c ≠ 8 → c ≠ 9 → c ≠ 10 → c ≠ 11 → π.1 c = σ.1 c := fun c k1 k2 k3 k4 => by rw [g1 c k1 k2 k3, r1 c k1 k4]; exact e1 c k1 k2 k3 k4
          have p3 : ∀ k, k ≠ 2 → k ≠ 5 → k ≠ 6 → π.1 8 k = σ.1 8 k := fun k k1 k2 k3 => by rw [g3 k k1 k2 k3, r3 k k2]; exact e3 k k1 k2 k3
          have p2 : π.2 = σ.2 := g2.trans (r2.trans e2)
          by_cases zg : itG T (clI T s (sk T p) r) = -1
          · rw [if_neg (fun q => q zg)] at he
            rw [zg]
            refine breq (-1) (-1) (fun _ => ?_) (fun q => absurd rfl q) (hx := rfl) (hy := rfl)
            have Tp9 : TK π T := Tr.fr (g1 6 (by decide) (by decide) (by decide)) (g1 7 (by decide) (by decide) (by decide))
            obtain ⟨g41, g42, g43, g44⟩ := g4 zg
            have hPW := clStep e8 hs ok hpn zg
            have hPK : ∀ π' : Mm, π'.1 10 = π.1 10 → π'.1 8 2 = π.1 8 2 → PK π' (plA s L (clI T s (sk T p) r).2.2) := by
              intro π' q10 q2
              unfold plA
              by_cases e : s = 0
              · rw [if_pos e]
                rw [if_pos e] at g42
                refine ⟨by rw [q2]; exact g42, fun i q hq9 => ?_⟩
                have hi : i < L.length := (List.getElem?_eq_some_iff.mp hq9).1
                have h5 := e5.2 i q hq9
                have hz9 := szB_in q.1
                have hk9 := (e8.2.1 q (List.mem_of_getElem? hq9)).1
                rw [q10, g5 (4 * i) (by omega), r1 10 (by decide) (by decide)]
                refine ⟨h5.1, fun w hw9 => ?_⟩
                rw [g5 _ (by omega), r1 10 (by decide) (by decide)]
                exact h5.2 w hw9
              · rw [if_neg e]
                rw [if_neg e] at g42
                refine ⟨by rw [q2, g42, List.length_append]; rfl, fun i q hq9 => ?_⟩
                have g44 := g44 e
                by_cases hi : i < L.length
                · rw [List.getElem?_append_left hi] at hq9
                  have h5 := e5.2 i q hq9
                  have hz9 := szB_in q.1
                  have hk9 := (e8.2.1 q (List.mem_of_getElem? hq9)).1
                  rw [q10, g5 (4 * i) (by omega), r1 10 (by decide) (by decide)]
                  refine ⟨h5.1, fun w hw9 => ?_⟩
                  rw [g5 _ (by omega), r1 10 (by decide) (by decide)]
                  exact h5.2 w hw9
                · rw [List.getElem?_append_right (by omega)] at hq9
                  have hi0 : i - L.length = 0 := by
                    have := (List.getElem?_eq_some_iff.mp hq9).1
                    have e1 : [(s, (clI T s (sk T p) r).2.2)].length = 1 := rfl
                    omega
                  rw [hi0] at hq9
                  have hq9 : (s, (clI T s (sk T p) r).2.2) = q := Option.some.inj hq9
                  have hi1 : i = L.length := by omega
                  rw [q10, hi1, ← hq9]
                  exact g44
            refine brlt ((clI T s (sk T p) r).1 : Int) (T.n : Int) (fun z3 => ?_) (fun z3 => ?_) (hx := g41) (hy := Tp9.2.1)
            · rw [if_pos (by omega)] at he
              have hn8 : ∀ c, c ≠ 8 → (uI π 8 5 (π.1 8 5 + 1)).1 c = π.1 c := fun c hc => uI_n hc
              refine ih ((clI T s (sk T p) r).1 + 1) (tn + 1) (hdA s had) _ _ _ _ (by omega) (by omega) (by omega) (by rw [hu]; simp only [jlit, jadd]; congr 1) (fun c k1 k2 k3 k4 => by rw [hn8 c k1]; exact p1 c k1 k2 k3 k4) p2 (fun k k1 k2 k3 => by rw [uI_ne (Or.inr k2)]; exact p3 k k1 k2 k3) (by rw [uI_at, g41]; simp only [jlit, jadd]; congr 1) (hPK _ (hn8 10 (by decide)) (uI_ne (Or.inr (by decide)))) (fun j hj => ?_) (fun j hj => by rw [hn8 9 (by decide)]; exact g43 j hj) hPW he
              rw [hn8 11 (by decide), g1 11 (by decide) (by decide) (by decide), r11 j hj]
              congr 2
              unfold cnP hdA plA
              by_cases e : s = 0
              · rw [if_pos e, if_pos e, if_pos e]
                by_cases ej : j = 0
                · rw [if_pos (by omega), if_pos ej]
                · rw [if_neg (by omega), if_neg ej, if_neg ej]
              · rw [if_neg e, if_neg e, if_neg e]
                by_cases ej : j = 0
                · rw [if_neg (by omega), if_pos ej, if_pos ej]
                · rw [if_neg ej, if_neg ej, fl_app]
                  by_cases es : j = s
                  · rw [if_pos es, if_pos (show (s, (clI T s (sk T p) r).2.2).1 = j from es.symm), List.length_append, es]
                    rfl
                  · rw [if_neg es, if_neg (show ¬ (s, (clI T s (sk T p) r).2.2).1 = j from fun q => es q.symm)]
            · rw [if_neg (by omega)] at he
              have := hq π p1 p2 p3 (fun _ => by rw [he]; exact ⟨hPK π rfl rfl, g43, _, hPW⟩)
              rw [he] at this
              exact this
          · rw [if_pos zg] at he
            refine breq (itG T (clI T s (sk T p) r)) (-1) (fun q => absurd q zg) (fun _ => ?_) (hx := rfl) (hy := rfl)
            have := hq π p1 p2 p3 (fun z => by rw [he] at z; exact absurd z zg)
            rw [he] at this
            exact this
        · refine bad ?_
          intro q
          have := q.2.2
          rw [hss, show ((s : Nat) : Int).toNat = s from Int.toNat_natCast s] at this
          omega
      refine wX4_readClauses [(64, [0, 1, 2, 3]), (78, [0])] 60 ?_
      refine brlt 320 (tn : Int) (fun z => by omega) (fun _ => ?_) (hx := rfl) (hy := hu)
      refine k_skipBlanks p Tt hp e4 ?_
      refine And.intro hG ?_
      refine And.intro hG ?_
      refine And.intro hG ?_
      refine k_at (sk T p) T5 (by omega) ?_ a5
      refine k_placeOf hG 4 0 4 (Or.inl ⟨rfl, rfl⟩) (by omega) (by omega) ?_ rfl rfl
      rw [show plc (stc 200) (jI (cz T (sk T p))) (4 - 0) 0 = k from ekd]
      refine breq k (-1) (fun z => ?_) (fun n1 => ?_) (hx := rfl) (hy := rfl)
      · exact bad (fun q => q.1 z)
      · refine breq k 3 (fun z3 => ?_) (fun z3 => ?_) (hx := rfl) (hy := rfl)
        · refine breq (b : Int) 2 (fun zb => ?_) (fun zb => ?_) (hx := ex) (hy := rfl)
          · exact And.intro (fun _ => good _ rfl n1 ⟨fun _ => by omega, fun _ => z3⟩) (fun q => absurd rfl q)
          · exact And.intro (fun q => absurd q (by decide)) (fun _ => bad (fun q => zb (by have := q.2.1.1 z3; omega)))
        · refine breq (b : Int) 2 (fun zb => ?_) (fun zb => ?_) (hx := ex) (hy := rfl)
          · exact And.intro (fun q => absurd q (by decide)) (fun _ => bad (fun q => z3 (q.2.1.2 (by omega))))
          · exact And.intro (fun _ => good _ rfl n1 ⟨fun z => absurd z z3, fun z => absurd (show (b : Int) = 2 by omega) zb⟩) (fun q => absurd rfl q)
  refine vX4_readClauses [(2, [0, 1, 2])] 60 ?_
  exact key (T.n + 1) 0 0 0 _ [] (plB 0) σ (by omega) (by omega) (by omega) rfl (fun _ _ _ _ _ => rfl) rfl (fun _ _ _ _ => rfl) ha ⟨h2, fun i q hq9 => by simp at hq9⟩ (fun j hj => by rw [hc j hj]; unfold cnP; split <;> rfl) hr ⟨⟨by omega, bdB_pl 0 (by omega)⟩, fun q hq9 => by simp at hq9, fun s _ _ => by show 0 ≤ _; omega⟩ hR
end KCl
