-- what ways give together; the class: finish
/-- the last way's paid, renewals, year; least, greatest, called, all added up; which sums were met -/
def Ag : Type := (Int × Int × Int) × (Int × Int × Int × Int) × (Nat → Bool)
def cntB (S : Nat → Bool) (M : Nat) : Nat := rowN (fun v => if S v = true then 1 else 0) M
def wtE (ru : Nat → Int) (E : Wk) : Nat := 2 ^ ((ru 1).toNat - (E.f 0).toNat)
def finA (all : Bool) (ru : Nat → Int) (A : Ag) (E : Wk) : Ag :=
  ((E.f 7, E.f 11, E.f 0), if all = true then ((min A.2.1.1 (E.f 7), max A.2.1.2.1 (E.f 7), A.2.1.2.2.1 + (if E.f 0 < ru 1 then (wtE ru E : Int) else 0), A.2.1.2.2.2 + E.f 7 * (wtE ru E : Int)), fun v => A.2.2 v || decide ((v : Int) = E.f 7)) else A.2)
def AG (M : Nat) (τ : Mm) (A : Ag) : Prop := (τ.1 69 0 = jI A.1.1 ∧ τ.1 69 1 = jI A.1.2.1 ∧ τ.1 69 2 = jI A.1.2.2) ∧ (τ.1 69 3 = jI A.2.1.1 ∧ τ.1 69 4 = jI A.2.1.2.1 ∧ τ.1 69 5 = jI A.2.1.2.2.1 ∧ τ.1 69 7 = jI A.2.1.2.2.2) ∧ τ.1 69 6 = jI (cntB A.2.2 M : Int) ∧ (∀ v, v < M → bsB (τ.2 71) v = A.2.2 v) ∧ (0 ≤ A.2.1.1 ∧ A.2.1.1 ≤ 163840) ∧ (0 ≤ A.2.1.2.1 ∧ A.2.1.2.1 ≤ 163840)
theorem cntB_same {S T : Nat → Bool} : ∀ M, (∀ v, v < M → T v = S v) → cntB T M = cntB S M
  | 0, _ => rfl
  | M + 1, h => by
    show cntB T M + (if T M = true then 1 else 0) = cntB S M + (if S M = true then 1 else 0)
    rw [cntB_same M (fun v hv => h v (by omega)), h M (by omega)]
theorem cntB_new {S : Nat → Bool} {s : Nat} (hs : S s = false) : ∀ M, s < M → cntB (fun v => S v || decide (v = s)) M = cntB S M + 1
  | 0, h => by omega
  | M + 1, h => by
    show cntB (fun v => S v || decide (v = s)) M + (if (S M || decide (M = s)) = true then 1 else 0) = cntB S M + (if S M = true then 1 else 0) + 1
    by_cases e : M = s
    · rw [cntB_same (S := S) M (fun v hv => by simp; intro q; omega), e, hs]
      simp
    · rw [cntB_new hs M (by omega)]
      simp [e]
      omega
theorem sh1 : ∀ k : Fin 13, (1 : Int32) <<< (jI ((k.val : Nat) : Int) &&& 31) = jI ((2 ^ k.val : Nat) : Int) := by decide
section KFi
variable {l : Launch} {G : GT} {d : Nat} {σ : Mm} {Q : Po} {ru : Nat → Int}
theorem k_finish {x y z c : Int32} {M : Nat} (all : Bool) (A : Ag) (E : Wk) (hM : M = 163840) (hR : RC σ ru) (hA : AG M σ A) (hall : σ.1 69 12 = if all = true then 1 else 0) (h0 : 0 ≤ E.f 0 ∧ E.f 0 ≤ ru 1) (h7 : 0 ≤ E.f 7 ∧ E.f 7 < 163840)
    (hq : ∀ τ : Mm, (∀ a, a ≠ 69 → τ.1 a = σ.1 a) → (∀ a, a ≠ 71 → τ.2 a = σ.2 a) → (∀ k, 8 ≤ k → τ.1 69 k = σ.1 69 k) → AG M τ (finA all ru A E) → Q none τ)
    (ex : x = jI (E.f 11)) (ey : y = jI (E.f 0)) (ez : z = jI (E.f 7)) (ec : c = if E.f 0 < ru 1 then 1 else 0) : MW l G (d + 1) mX10_finish [.ref 69, .int x, .int y, .int z, .int c] σ Q := by
  have hr := hR.1
  unfold RB at hr
  obtain ⟨⟨a0, a1, a2⟩, ⟨a3, a4, a5, a7⟩, a6, aS, aL, aG⟩ := hA
  obtain ⟨σ1, hσ1⟩ : ∃ σ1, σ1 = uI (uI (uI σ 69 0 z) 69 1 x) 69 2 y := ⟨_, rfl⟩
  have k1 : ∀ k, 3 ≤ k → σ1.1 69 k = σ.1 69 k := fun k hk => by rw [hσ1, uI_ne (Or.inr (by omega)), uI_ne (Or.inr (by omega)), uI_ne (Or.inr (by omega))]
  have c1 : ∀ a, a ≠ 69 → σ1.1 a = σ.1 a := fun a ha => by rw [hσ1, uI_n ha, uI_n ha, uI_n ha]
  have d1 : σ1.2 = σ.2 := by rw [hσ1]; rfl
  have v0 : σ1.1 69 0 = jI (E.f 7) := by rw [hσ1, uI_ne (Or.inr (by decide)), uI_ne (Or.inr (by decide)), uI_at]; exact ez
  have v1 : σ1.1 69 1 = jI (E.f 11) := by rw [hσ1, uI_ne (Or.inr (by decide)), uI_at]; exact ex
  have v2 : σ1.1 69 2 = jI (E.f 0) := by rw [hσ1, uI_at]; exact ey
  have hall1 : σ1.1 69 12 = if all = true then 1 else 0 := by rw [k1 12 (by omega)]; exact hall
  cases all with
  | false =>
    refine vX10_finish [] 60 ?_
    refine And.intro (fun _ => ?_) (fun q => absurd (by rw [← hσ1]; exact hall1) q)
    refine hq _ (fun a ha => by rw [← hσ1]; exact c1 a ha) (fun a _ => by rw [← hσ1, d1]) (fun k hk => by rw [← hσ1]; exact k1 k (by omega)) ?_
    rw [← hσ1]
    exact ⟨⟨v0, v1, v2⟩, ⟨by rw [k1 3 (by omega)]; exact a3, by rw [k1 4 (by omega)]; exact a4, by rw [k1 5 (by omega)]; exact a5, by rw [k1 7 (by omega)]; exact a7⟩, by rw [k1 6 (by omega)]; exact a6, fun v hv => by rw [d1]; exact aS v hv, aL, aG⟩
  | true =>
    obtain ⟨s, hs⟩ : ∃ s : Nat, E.f 7 = (s : Int) := ⟨(E.f 7).toNat, by omega⟩
    obtain ⟨t, ht⟩ : ∃ t : Nat, E.f 0 = (t : Int) := ⟨(E.f 0).toNat, by omega⟩
    have hrow : (1 : Int32) <<< ((jI (ru 1) - y) &&& 31) = jI (wtE ru E : Int) := by
      have e : jI (ru 1) - y = jI (((ru 1).toNat - t : Nat) : Int) := by rw [ey, ht, jsub]; congr 1; omega
      have := sh1 ⟨(ru 1).toNat - t, by omega⟩
      unfold wtE
      rw [e, ht]
      exact this
    have ez' : z = jI (s : Int) := by rw [ez, hs]
    have z6 : z >>> (6 &&& 31) = jI ((s / 64 : Nat) : Int) := by rw [ez']; exact shI (m := s) (k := 6) (by omega) (6 &&& 31) (by decide)
    have z63 : z &&& 63 = jI ((s % 64 : Nat) : Int) := by rw [ez']; exact and63I s (by omega)
    have mn : (if z < σ1.1 69 3 then z else σ1.1 69 3) = jI (min A.2.1.1 (E.f 7)) := by
      rw [k1 3 (by omega), a3, ez]
      by_cases q : E.f 7 < A.2.1.1
      · rw [if_pos ((jlt (by omega) (by omega)).mpr q)]; congr 1; omega
      · rw [if_neg (fun k => q ((jlt (by omega) (by omega)).mp k))]; congr 1; omega
    have mx : (if σ1.1 69 4 < z then z else σ1.1 69 4) = jI (max A.2.1.2.1 (E.f 7)) := by
      rw [k1 4 (by omega), a4, ez]
      by_cases q : A.2.1.2.1 < E.f 7
      · rw [if_pos ((jlt (by omega) (by omega)).mpr q)]; congr 1; omega
      · rw [if_neg (fun k => q ((jlt (by omega) (by omega)).mp k))]; congr 1; omega
    obtain ⟨σ2, hσ2⟩ : ∃ σ2, σ2 = uI (uI σ1 69 3 (if z < σ1.1 69 3 then z else σ1.1 69 3)) 69 4 (if (uI σ1 69 3 (if z < σ1.1 69 3 then z else σ1.1 69 3)).1 69 4 < z then z else (uI σ1 69 3 (if z < σ1.1 69 3 then z else σ1.1 69 3)).1 69 4) := ⟨_, rfl⟩
    have k2 : ∀ k, k ≠ 3 → k ≠ 4 → σ2.1 69 k = σ1.1 69 k := fun k h3 h4 => by rw [hσ2, uI_ne (Or.inr h4), uI_ne (Or.inr h3)]
    have c2 : ∀ a, a ≠ 69 → σ2.1 a = σ.1 a := fun a ha => by rw [hσ2, uI_n ha, uI_n ha]; exact c1 a ha
    have d2 : σ2.2 = σ.2 := by rw [hσ2]; exact d1
    have w3 : σ2.1 69 3 = jI (min A.2.1.1 (E.f 7)) := by rw [hσ2, uI_ne (Or.inr (by decide)), uI_at]; exact mn
    have w4 : σ2.1 69 4 = jI (max A.2.1.2.1 (E.f 7)) := by rw [hσ2, uI_at, uI_ne (Or.inr (by decide))]; exact mx
    have w5 : σ2.1 69 5 = jI A.2.1.2.2.1 := by rw [k2 5 (by decide) (by decide), k1 5 (by omega)]; exact a5
    have w7 : σ2.1 69 7 = jI A.2.1.2.2.2 := by rw [k2 7 (by decide) (by decide), k1 7 (by omega)]; exact a7
    have w6 : σ2.1 69 6 = jI (cntB A.2.2 M : Int) := by rw [k2 6 (by decide) (by decide), k1 6 (by omega)]; exact a6
    -- from the sum's bit on
    have bit : ∀ σ3 : Mm, (∀ a, a ≠ 69 → σ3.1 a = σ.1 a) → σ3.2 = σ.2 → (∀ k, k ≠ 5 → k ≠ 7 → σ3.1 69 k = σ2.1 69 k) → σ3.1 69 5 = jI (A.2.1.2.2.1 + (if E.f 0 < ru 1 then (wtE ru E : Int) else 0)) → σ3.1 69 7 = jI (A.2.1.2.2.2 + E.f 7 * (wtE ru E : Int)) → Wp l G (d + 1) mX10_finish 92 [(0, .ref 69), (3, .int z)] [] σ3 Q := by
      intro σ3 e1 e2 e3 e5 e7
      have fin : ∀ τ : Mm, (∀ a, a ≠ 69 → τ.1 a = σ3.1 a) → (∀ a, a ≠ 71 → τ.2 a = σ3.2 a) → (∀ k, k ≠ 6 → τ.1 69 k = σ3.1 69 k) → τ.1 69 6 = jI (cntB (fun v => A.2.2 v || decide ((v : Int) = E.f 7)) M : Int) → (∀ v, v < M → bsB (τ.2 71) v = (A.2.2 v || decide ((v : Int) = E.f 7))) → Q none τ := by
        intro τ g1 g2 g3 g6 gS
        refine hq τ (fun a ha => (g1 a ha).trans (e1 a ha)) (fun a ha => by rw [g2 a ha, e2]) (fun k hk => by rw [g3 k (by omega), e3 k (by omega) (by omega), k2 k (by omega) (by omega)]; exact k1 k (by omega)) ?_
        refine ⟨⟨?_, ?_, ?_⟩, ⟨?_, ?_, ?_, ?_⟩, g6, gS, ?_, ?_⟩
        · rw [g3 0 (by decide), e3 0 (by decide) (by decide), k2 0 (by decide) (by decide)]; exact v0
        · rw [g3 1 (by decide), e3 1 (by decide) (by decide), k2 1 (by decide) (by decide)]; exact v1
        · rw [g3 2 (by decide), e3 2 (by decide) (by decide), k2 2 (by decide) (by decide)]; exact v2
        · rw [g3 3 (by decide), e3 3 (by decide) (by decide)]; exact w3
        · rw [g3 4 (by decide), e3 4 (by decide) (by decide)]; exact w4
        · rw [g3 5 (by decide)]; exact e5
        · rw [g3 7 (by decide)]; exact e7
        · show 0 ≤ min A.2.1.1 (E.f 7) ∧ min A.2.1.1 (E.f 7) ≤ 163840
          omega
        · show 0 ≤ max A.2.1.2.1 (E.f 7) ∧ max A.2.1.2.1 (E.f 7) ≤ 163840
          omega
      have e6 : σ3.1 69 6 = jI (cntB A.2.2 M : Int) := by rw [e3 6 (by decide) (by decide)]; exact w6
      have esum : ∀ v : Nat, decide ((v : Int) = E.f 7) = decide (v = s) := fun v => by
        rw [hs]
        by_cases q : v = s
        · rw [decide_eq_true q, decide_eq_true (by omega)]
        · rw [decide_eq_false q, decide_eq_false (by omega)]
      have hbit : bsB (σ.2 71) s = A.2.2 s := aS s (by omega)
      refine wX10_finish [] 80 ?_
      refine brlt ((s / 64 : Nat) : Int) 0 (fun q => by omega) (fun _ => ?_) (hx := z6) (hy := rfl)
      refine brle 2560 ((s / 64 : Nat) : Int) (fun q => by omega) (fun _ => ?_) (hx := rfl) (hy := z6)
      refine ldL 2560 (s / 64) (show _ = σ.2 71 (s / 64) by rw [e2]) ?_ (hi := z6)
      have hb : lg_cmp (((σ.2 71 (s / 64)).toUInt64 >>> ((z &&& 63).toInt64.toUInt64 &&& Int64.toUInt64 63)).toInt64 &&& 1) 0 = 0 ↔ (σ.2 71 (s / 64)).toBitVec.getLsbD (s % 64) = false := by
        rw [z63]
        exact bs_get (by omega)
      by_cases q : A.2.2 s = false
      · have q' : (σ.2 71 (s / 64)).toBitVec.getLsbD (s % 64) = false := by
          have := hbit
          unfold bsB at this
          rw [this]; exact q
        refine And.intro (fun _ => ?_) (fun k => absurd (hb.mpr q') k)
        refine ldL 2560 (s / 64) (show _ = σ.2 71 (s / 64) by rw [e2]) ?_ (hi := z6)
        refine stI 2560 (s / 64) ?_ (hi := z6)
        refine fin _ (fun a ha => uI_n ha) (fun a ha => by show (uJ σ3 71 (s / 64) _).2 a = _; exact uJ_n ha) (fun k hk => uI_ne (Or.inr hk)) ?_ (fun v hv => ?_)
        · rw [uI_at]
          show (uJ σ3 71 (s / 64) _).1 69 6 + 1 = _
          rw [uJ_1, e6, show (fun v : Nat => A.2.2 v || decide ((v : Int) = E.f 7)) = (fun v => A.2.2 v || decide (v = s)) from funext (fun v => by rw [esum v]), cntB_new q M (by omega)]
          simp only [jlit, jadd]
          congr 1
        · rw [esum v]
          show bsB ((uJ σ3 71 (s / 64) _).2 71) v = _
          rw [uJ_s]
          unfold bsB
          by_cases e : v / 64 = s / 64
          · rw [e, updL_s, z63, bs_set (by omega) (by omega)]
            have := aS v (by omega)
            unfold bsB at this
            rw [e] at this
            rw [this]
            congr 1
            by_cases e' : v = s
            · rw [decide_eq_true e', decide_eq_true (by omega)]
            · rw [decide_eq_false e', decide_eq_false (by omega)]
          · rw [updL_n e, e2]
            have := aS v (by omega)
            unfold bsB at this
            rw [this, decide_eq_false (show ¬ v = s by intro k; rw [k] at e; exact e rfl), Bool.or_false]
      · have q1 : A.2.2 s = true := by simpa using q
        have q' : ¬ (σ.2 71 (s / 64)).toBitVec.getLsbD (s % 64) = false := by
          have := hbit
          unfold bsB at this
          rw [this]; exact q
        refine And.intro (fun k => absurd (hb.mp k) q') (fun _ => ?_)
        have eS : ∀ v, (A.2.2 v || decide ((v : Int) = E.f 7)) = A.2.2 v := fun v => by
          rw [esum v]
          by_cases e : v = s
          · rw [e, q1, Bool.true_or]
          · rw [decide_eq_false e, Bool.or_false]
        refine fin σ3 (fun _ _ => rfl) (fun _ _ => rfl) (fun _ _ => rfl) ?_ (fun v hv => ?_)
        · rw [e6, cntB_same (S := A.2.2) M (fun v _ => eS v)]
        · rw [eS v, e2]
          exact aS v hv
    refine vX10_finish [(92, [0, 3])] 60 ?_
    refine And.intro (fun k => absurd k (by rw [← hσ1, hall1]; decide)) (fun _ => ?_)
    refine ldI 14 1 (show _ = jI (ru 1) by rw [← hσ1, c1 1 (by decide)]; exact hR.2 1 (by omega)) ?_ (hi := rfl)
    rw [← hσ1]
    by_cases qc : E.f 0 < ru 1
    · rw [if_pos qc] at ec
      refine And.intro (fun k => absurd k (by rw [ec]; decide)) (fun _ => ?_)
      rw [← hσ2]
      refine bit _ (fun a ha => by rw [uI_n ha, uI_n ha]; exact c2 a ha) d2 (fun k h5 h7 => by rw [uI_ne (Or.inr h7), uI_ne (Or.inr h5)]) ?_ ?_
      · rw [uI_ne (Or.inr (by decide)), uI_at, w5, hrow, if_pos qc, jadd]
      · rw [uI_at, uI_ne (Or.inr (by decide)), w7, hrow, ez, jmul, jadd]
    · rw [if_neg qc] at ec
      refine And.intro (fun _ => ?_) (fun k => absurd ec k)
      rw [← hσ2]
      refine bit _ (fun a ha => by rw [uI_n ha, uI_n ha]; exact c2 a ha) d2 (fun k h5 h7 => by rw [uI_ne (Or.inr h7), uI_ne (Or.inr h5)]) ?_ ?_
      · rw [uI_ne (Or.inr (by decide)), uI_at, w5, if_neg qc, show (0 : Int32) = jI 0 from rfl, jadd]
      · rw [uI_at, uI_ne (Or.inr (by decide)), w7, hrow, ez, jmul, jadd]
end KFi
