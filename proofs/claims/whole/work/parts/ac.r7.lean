-- the whole state; texts taken
/-- the tape, the scripts, the status, the loan's rules, its acts, the image -/
def Xw : Type := Tp × Sc × (Nat → Int32) × Option (Nat → Int) × Hs × Option Im
def Xw.T (X : Xw) : Tp := X.1
def Xw.S (X : Xw) : Sc := X.2.1
def Xw.s (X : Xw) : Nat → Int32 := X.2.2.1
def Xw.o (X : Xw) : Option (Nat → Int) := X.2.2.2.1
def Xw.H (X : Xw) : Hs := X.2.2.2.2.1
def Xw.im (X : Xw) : Option Im := X.2.2.2.2.2
def KL (σ : Mm) (o : Option (Nat → Int)) (H : Hs) : Prop := match o with
  | none => σ.1 1 1 = 0
  | some ru => Kr σ 2 H.W ∧ CI σ ru
def KS (σ : Mm) (X : Xw) : Prop := TK σ X.T ∧ SK σ X.S ∧ (∀ j, j < 4 → σ.1 4 j = X.s j) ∧ HC σ X.H ∧ IK σ X.im ∧ KL σ X.o X.H
def ML (σ : Mm) (o : Option (Nat → Int)) (H : Hs) (im : Option Im) : Prop := match o with
  | none => σ.1 98 17 = 0 ∧ σ.1 98 26 = 0 ∧ σ.1 98 25 = 0 ∧ σ.1 108 313 = 0 ∧ ∃ F : Nat, F < 40 ∧ σ.1 98 24 = jI (F : Int)
  | some ru => σ.1 98 17 = 1 ∧ ME σ ru ∧ HM σ ru H ∧ IM σ ru im
def MS (σ : Mm) (X : Xw) : Prop := TM σ X.T ∧ SM σ X.S ∧ (∀ j, j < 4 → σ.1 105 j = X.s j) ∧ σ.1 98 27 = 0 ∧ ML σ X.o X.H X.im
/-- what holds of the state itself: its rows are in their bounds; N entries at most -/
def XL (N : Nat) (o : Option (Nat → Int)) (H : Hs) (im : Option Im) : Prop := match o with
  | none => H.A = 0 ∧ H.E = 0 ∧ im = none
  | some ru => RB ru ∧ WB ru H.W ∧ (∀ j, j < H.A → WB ru (H.V j)) ∧ H.E ≤ N ∧ ∀ m, im = some m → WB ru m.1 ∧ m.2.1 ≤ N
def XI (N : Nat) (X : Xw) : Prop := XL N X.o X.H X.im
theorem IK.fr {σ τ : Mm} {im : Option Im} (h : IK σ im) (e1 : τ.1 64 = σ.1 64) (e2 : τ.1 67 = σ.1 67) (e3 : τ.1 68 = σ.1 68) : IK τ im := by
  unfold IK at h ⊢
  rw [e1, e2, e3]
  exact h
theorem KL.fr {σ τ : Mm} {o : Option (Nat → Int)} {H : Hs} (h : KL σ o H) (e : ∀ c, c < 98 → c ∉ [4, 6, 7, 8, 9, 10, 11, 12, 13, 14, 64, 65, 66, 67, 68] → τ.1 c = σ.1 c) : KL τ o H := by
  unfold KL at h ⊢
  cases o with
  | none => rw [e 1 (by decide) (by decide)]; exact h
  | some ru =>
    refine ⟨h.1.fr (e 2 (by decide) (by decide)), h.2.frS (e 1 (by decide) (by decide)) (fun c hc => e c ?_ ?_)⟩
    · have : ∀ c ∈ cS, c < 98 := by decide
      exact this c hc
    · have : ∀ c ∈ cS, c ∉ [4, 6, 7, 8, 9, 10, 11, 12, 13, 14, 64, 65, 66, 67, 68] := by decide
      exact this c hc
theorem KS.fr {σ τ : Mm} {X : Xw} (h : KS σ X) (e : ∀ c, c < 98 → c ∉ [8, 9, 10, 11] → τ.1 c = σ.1 c) : KS τ X := by
  obtain ⟨h1, h2, h3, h4, h5, h6⟩ := h
  refine ⟨h1.fr (e 6 (by decide) (by decide)) (e 7 (by decide) (by decide)), h2.fr (e 12 (by decide) (by decide)) (e 14 (by decide) (by decide)) (e 13 (by decide) (by decide)), fun j hj => by rw [e 4 (by decide) (by decide)]; exact h3 j hj, h4.fr (e 64 (by decide) (by decide)) (e 65 (by decide) (by decide)) (e 66 (by decide) (by decide)), h5.fr (e 64 (by decide) (by decide)) (e 67 (by decide) (by decide)) (e 68 (by decide) (by decide)), h6.fr (fun c hc hn => e c hc (fun q => hn ?_))⟩
  simp only [List.mem_cons, List.not_mem_nil, or_false] at q ⊢
  omega
def H0 (W : Wk) : Hs := (W, 0, fun _ _ => 0, 0, fun _ => W)
def Xw.t0 (X : Xw) : Tp := (0, X.T.2)
/-- the answer, the state then -/
def xText (X : Xw) (i : Int) : Int × Xw :=
  if i = 0 then (if (rdC X.T 0).1 = -1 then ((rdC X.T 0).2.2 1, (X.t0, X.S, X.s, some (rdC X.T 0).2.2, H0 (wLoan (rdC X.T 0).2.2 (rdC X.T 0).2.1), none)) else (-1, X))
  else if i = 1 then (if X.S.c < 4 ∧ (rdS' X.T).1 = -1 then ((X.S.c : Int), (X.t0, sNew X.S (rdS' X.T).2, X.s, X.o, X.H, X.im)) else (-1, X))
  else if i = 2 then (match X.o with
    | none => (-1, X)
    | some ru => if (rdC X.T 2).1 = -1 then ((allN (wNz (wPolT ru X.H.W (rdC X.T 2).2.1)) (ru 1).toNat : Int), (X.t0, X.S, X.s, some ru, (wPolT ru X.H.W (rdC X.T 2).2.1, X.H.2), X.im)) else (-1, X))
  else (-1, X)
theorem clF_in (T : Tp) (b : Nat) : ∀ m p had L r, p ≤ T.n → -1 ≤ (clF T b m p had L r).1 ∧ (clF T b m p had L r).1 ≤ T.n
  | 0, p, had, L, r, hp => ⟨show (-1 : Int) ≤ (p : Int) by omega, show (p : Int) ≤ T.n by omega⟩
  | m + 1, p, had, L, r, hp => by
    have hk := sk_in hp
    have ki := kdW_in (ch T (sk T p))
    unfold clF
    by_cases q : clOk b had L (kdW (ch T (sk T p)))
    · rw [if_neg (fun k => k q)]
      have hpn : sk T p < T.n := by
        by_cases z : sk T p < T.n
        · exact z
        · exfalso
          have hc9 : ch T (sk T p) = -1 := by unfold ch; rw [if_neg z]
          rw [hc9, kdW_end.1] at q
          exact q.1 rfl
      have ci := clI_in (T := T) (r := r) (show (kdW (ch T (sk T p))).toNat < 4 by have := q.1; omega) hpn
      by_cases g : itG T (clI T (kdW (ch T (sk T p))).toNat (sk T p) r) = -1
      · rw [if_neg (fun k => k g)]
        by_cases e : (clI T (kdW (ch T (sk T p))).toNat (sk T p) r).1 < T.n
        · rw [if_pos e]
          exact clF_in T b m _ _ _ _ (by omega)
        · rw [if_neg e]
          exact ⟨show (-1 : Int) ≤ -1 by omega, show (-1 : Int) ≤ T.n by omega⟩
      · rw [if_pos g]
        exact ci.2.1
    · rw [if_pos q]
      exact ⟨show (-1 : Int) ≤ (sk T p : Int) by omega, show (sk T p : Int) ≤ T.n by omega⟩
theorem scF_in (T : Tp) : ∀ m p L, p ≤ T.n → -1 ≤ (scF T m p L).1 ∧ (scF T m p L).1 ≤ T.n
  | 0, p, L, hp => ⟨show (-1 : Int) ≤ (p : Int) by omega, show (p : Int) ≤ T.n by omega⟩
  | m + 1, p, L, hp => by
    have hk := sk_in hp
    unfold scF
    by_cases q : stW (ch T (sk T p)) = -1
    · rw [if_pos q]
      exact ⟨show (-1 : Int) ≤ (sk T p : Int) by omega, show (sk T p : Int) ≤ T.n by omega⟩
    · rw [if_neg q]
      have hpn : sk T p < T.n := by
        by_cases z : sk T p < T.n
        · exact z
        · exfalso
          have hc9 : ch T (sk T p) = -1 := by unfold ch; rw [if_neg z]
          rw [hc9, stW_end.1] at q
          exact q rfl
      have hs := scN_in hpn
      have hk2 := sk_in hs.1.2
      by_cases g : (scN T p).2.1 = -1
      · rw [if_neg (fun k => k g)]
        by_cases e : sk T (scN T p).1 < T.n
        · rw [if_neg (fun k => k e)]
          by_cases c : ch T (sk T (scN T p).1) ≠ 59 ∨ 16 ≤ L.length + 1
          · rw [if_pos c]
            exact ⟨show (-1 : Int) ≤ (sk T (scN T p).1 : Int) by omega, show (sk T (scN T p).1 : Int) ≤ T.n by omega⟩
          · rw [if_neg c]
            exact scF_in T m _ _ (by omega)
        · rw [if_pos e]
          exact ⟨show (-1 : Int) ≤ -1 by omega, show (-1 : Int) ≤ T.n by omega⟩
      · rw [if_pos g]
        exact hs.2.1
theorem rdC_one {T : Tp} {b : Nat} (h : T.n ≤ 320) (e : jI (rdC T b).1 = -1) : (rdC T b).1 = -1 := by
  have := clF_in T b (T.n + 1) 0 0 [] (plB 0) (by omega)
  exact (jeq (show R31 (rdC T b).1 by unfold rdC; omega) (by omega)).mp e
theorem rdS_one {T : Tp} (h : T.n ≤ 320) (e : jI (rdS' T).1 = -1) : (rdS' T).1 = -1 := by
  have := scF_in T 16 0 [] (by omega)
  exact (jeq (show R31 (rdS' T).1 by unfold rdS'; omega) (by omega)).mp e
section KTx
variable {l : Launch} {G : GT} {d : Nat} {σ : Mm} {Q : Po} {X : Xw} {N : Nat}
theorem TK.t0 {σ : Mm} (h : σ.1 6 1 = 0) : TK σ X.t0 := ⟨by show 0 ≤ 320; omega, by rw [h]; rfl, fun j hj => absurd hj (by show ¬ j < 0; omega)⟩
theorem TM.t0 {σ : Mm} (h : σ.1 98 2 = 0) : TM σ X.t0 := ⟨by show 0 ≤ 320; omega, by rw [h]; rfl, fun j hj => absurd hj (by show ¬ j < 0; omega)⟩
theorem k_text {x : Int32} (hG : GX G) (i : Int) (ri : R31 i) (hK : KS σ X) (hX : XI N X) (hq : ∀ τ : Mm, (∀ c, 98 ≤ c → τ.1 c = σ.1 c) → τ.2 = σ.2 → KS τ (xText X i).2 → Q (some (.int (jI (xText X i).1))) τ) (ex : x = jI i := by first | rfl | assumption | (simp only [jlit, jneg, jadd, jsub, jmul]; done) | (simp only [jlit, jneg, jadd, jsub, jmul]; congr 1 <;> omega) | (congr 1 <;> omega)) : MW l G (d + 6) mX11_text [.ref 0, .int x] σ Q := by
  have hK0 := hK
  obtain ⟨h1, h2, h3, h4, h5, h6⟩ := hK
  have bad : ∀ τ : Mm, (∀ c, c ≠ 8 → c ≠ 9 → c ≠ 10 → c ≠ 11 → τ.1 c = σ.1 c) → τ.2 = σ.2 → xText X i = (-1, X) → Q (some (.int (-1))) τ := by
    intro τ e1 e2 e
    rw [e] at hq
    refine hq τ (fun c hc => e1 c (by omega) (by omega) (by omega) (by omega)) e2 (hK0.fr (fun c _ hn => ?_))
    simp only [List.mem_cons, List.not_mem_nil, or_false, not_or] at hn
    exact e1 c hn.1 hn.2.1 hn.2.2.1 hn.2.2.2
  have sc := h2.1.1
  refine vX11_text [(41, [0, 1])] 60 ?_
  refine brlt i 0 (fun q => ?_) (fun q => ?_) (hx := ex) (hy := rfl)
  · exact bad σ (fun _ _ _ _ _ => rfl) rfl (by unfold xText; rw [if_neg (by omega), if_neg (by omega), if_neg (by omega)])
  refine brle i 2 (fun q2 => ?_) (fun q2 => ?_) (hx := ex) (hy := rfl)
  · refine breq i 1 (fun e1 => ?_) (fun e1 => ?_) (hx := ex) (hy := rfl)
    · -- a script
      refine brle 4 (X.S.c : Int) (fun c4 => ?_) (fun c4 => ?_) (hx := rfl) (hy := h2.2.1)
      · exact bad σ (fun _ _ _ _ _ => rfl) rfl (by unfold xText; rw [if_neg (by omega), if_pos e1, if_neg (fun z => by have := z.1; omega)])
      · refine breq i 2 (fun z => by omega) (fun _ => ?_) (hx := ex) (hy := rfl)
        refine wX11_text [] 60 ?_
        refine k_examineS hG h1 (fun τ g1 g2 g3 g4 => ?_) (by rw [ex, e1])
        have hS' : SK τ X.S := h2.fr (g1 12 (by decide) (by decide) (by decide) (by decide)) (g1 14 (by decide) (by decide) (by decide) (by decide)) (g1 13 (by decide) (by decide) (by decide) (by decide))
        by_cases z : (rdS' X.T).1 = -1
        · rw [z]
          refine breq (-1) (-1) (fun _ => ?_) (fun k => absurd rfl k) (hx := rfl) (hy := rfl)
          refine breq i 1 (fun _ => ?_) (fun k => absurd e1 k) (hx := ex) (hy := rfl)
          obtain ⟨p1, p2, p3, p4⟩ := g4 z
          have n6 : ∀ c, c ≠ 6 → (uI τ 6 1 0).1 c = τ.1 c := fun c hc => uI_n hc
          refine k_take (S := X.S) (L := (rdS' X.T).2) (hS'.fr (n6 12 (by decide)) (n6 14 (by decide)) (n6 13 (by decide))) (by omega) ⟨by rw [n6 8 (by decide)]; exact p1.1, fun i q h => by rw [n6 10 (by decide)]; exact p1.2 i q h⟩ p2 p3 p4 (fun ρ f1 f2 f3 => ?_) (by rw [n6 8 (by decide)]; exact p1.1)
          have ext : xText X i = ((X.S.c : Int), (X.t0, sNew X.S (rdS' X.T).2, X.s, X.o, X.H, X.im)) := by unfold xText; rw [if_neg (by omega), if_pos e1, if_pos ⟨by omega, z⟩]; rfl
          rw [ext] at hq
          have fa : ∀ c, c ∉ [6, 8, 9, 10, 11, 12, 13, 14] → ρ.1 c = σ.1 c := fun c hc => by
            simp only [List.mem_cons, List.not_mem_nil, or_false, not_or] at hc
            rw [f1 c (by omega) (by omega) (by omega), n6 c (by omega), g1 c (by omega) (by omega) (by omega) (by omega)]
          refine hq ρ (fun c hc => fa c (by simp only [List.mem_cons, List.not_mem_nil, or_false, not_or]; omega)) (f2.trans g2) ⟨TK.t0 (by rw [f1 6 (by decide) (by decide) (by decide), uI_at]), f3, fun j hj => by rw [fa 4 (by decide)]; exact h3 j hj, h4.fr (fa 64 (by decide)) (fa 65 (by decide)) (fa 66 (by decide)), h5.fr (fa 64 (by decide)) (fa 67 (by decide)) (fa 68 (by decide)), h6.fr (fun c hc hn => fa c (fun q => hn ?_))⟩
          simp only [List.mem_cons, List.not_mem_nil, or_false] at q ⊢
          omega
        · have hb : (rdS' X.T).1 ≠ -1 := z
          refine And.intro (fun k => ?_) (fun _ => bad τ g1 g2 (by unfold xText; rw [if_neg (by omega), if_pos e1, if_neg (fun k => z k.2)]))
          exfalso
          exact hb (rdS_one h1.1 k)
    · by_cases e2 : i = 2
      · -- a policy
        refine breq i 2 (fun _ => ?_) (fun k => absurd e2 k) (hx := ex) (hy := rfl)
        cases ho : X.o with
        | none =>
          unfold KL at h6
          rw [ho] at h6
          refine k_noLoan 0 h6 (by omega) ?_
          refine brz _ (fun k => absurd rfl k) (fun _ => ?_)
          exact bad σ (fun _ _ _ _ _ => rfl) rfl (by unfold xText; rw [if_neg (by omega), if_neg e1, if_pos e2, ho])
        | some ru =>
          unfold KL at h6
          rw [ho] at h6
          unfold XI XL at hX
          rw [ho] at hX
          have hr := hX.1
          have hr' := hr
          unfold RB at hr'
          refine k_noLoan (ru 1) (h6.2.1.2 1 (by omega)) (by omega) ?_
          refine brz _ (fun _ => ?_) (fun k => by omega)
          refine wX11_text [] 60 ?_
          refine k_examineC hG 2 (Or.inr rfl) h1 (fun τ g1 g2 g3 g4 => ?_) (by rw [ex, e2]; rfl)
          by_cases z : (rdC X.T 2).1 = -1
          · rw [z]
            refine breq (-1) (-1) (fun _ => ?_) (fun k => absurd rfl k) (hx := rfl) (hy := rfl)
            refine breq i 1 (fun k => absurd k e1) (fun _ => ?_) (hx := ex) (hy := rfl)
            refine breq i 0 (fun k => by omega) (fun _ => ?_) (hx := ex) (hy := rfl)
            obtain ⟨p1, p2, had, p3⟩ := g4 z
            have n6 : ∀ c, c ≠ 6 → (uI τ 6 1 0).1 c = τ.1 c := fun c hc => uI_n hc
            refine k_takePolicy (ru := ru) (W := X.H.W) (h6.1.fr (by rw [n6 2 (by decide), g1 2 (by decide) (by decide) (by decide) (by decide)])) (by rw [n6 1 (by decide), g1 1 (by decide) (by decide) (by decide) (by decide)]; exact h6.2.1.2 1 (by omega)) (by omega) ⟨by rw [n6 8 (by decide)]; exact p1.1, fun i q h => by rw [n6 10 (by decide)]; exact p1.2 i q h⟩ p3 (fun ρ f1 f2 f3 => ?_)
            have ext : xText X i = ((allN (wNz (wPolT ru X.H.W (rdC X.T 2).2.1)) (ru 1).toNat : Int), (X.t0, X.S, X.s, some ru, (wPolT ru X.H.W (rdC X.T 2).2.1, X.H.2), X.im)) := by unfold xText; rw [if_neg (by omega), if_neg e1, if_pos e2, ho]; show (if (rdC X.T 2).1 = -1 then _ else _) = _; rw [if_pos z]; rfl
            rw [ext] at hq
            have fa : ∀ c, c ∉ [2, 6, 8, 9, 10, 11] → ρ.1 c = σ.1 c := fun c hc => by
              simp only [List.mem_cons, List.not_mem_nil, or_false, not_or] at hc
              rw [f1 c (by omega), n6 c (by omega), g1 c (by omega) (by omega) (by omega) (by omega)]
            have h4' : HC ρ (wPolT ru X.H.W (rdC X.T 2).2.1, X.H.2) := h4.fr (fa 64 (by decide)) (fa 65 (by decide)) (fa 66 (by decide))
            refine hq ρ (fun c hc => fa c (by simp only [List.mem_cons, List.not_mem_nil, or_false, not_or]; omega)) (f2.trans g2) ⟨TK.t0 (by rw [f1 6 (by decide), uI_at]), h2.fr (fa 12 (by decide)) (fa 14 (by decide)) (fa 13 (by decide)), fun j hj => by rw [fa 4 (by decide)]; exact h3 j hj, h4', h5.fr (fa 64 (by decide)) (fa 67 (by decide)) (fa 68 (by decide)), f3, h6.2.frS (fa 1 (by decide)) (fun c hc => fa c ?_)⟩
            have : ∀ c ∈ cS, c ∉ [2, 6, 8, 9, 10, 11] := by decide
            exact this c hc
          · refine And.intro (fun k => absurd (rdC_one h1.1 k) z) (fun _ => bad τ g1 g2 (by unfold xText; rw [if_neg (by omega), if_neg e1, if_pos e2, ho]; show (if (rdC X.T 2).1 = -1 then _ else _) = _; rw [if_neg z]))
      · -- a loan
        have e0 : i = 0 := by omega
        refine breq i 2 (fun k => absurd k e2) (fun _ => ?_) (hx := ex) (hy := rfl)
        refine wX11_text [] 60 ?_
        refine k_examineC hG 0 (Or.inl rfl) h1 (fun τ g1 g2 g3 g4 => ?_) (by rw [ex, e0]; rfl)
        by_cases z : (rdC X.T 0).1 = -1
        · rw [z]
          refine breq (-1) (-1) (fun _ => ?_) (fun k => absurd rfl k) (hx := rfl) (hy := rfl)
          refine breq i 1 (fun k => absurd k e1) (fun _ => ?_) (hx := ex) (hy := rfl)
          refine breq i 0 (fun _ => ?_) (fun k => absurd e0 k) (hx := ex) (hy := rfl)
          obtain ⟨p1, p2, had, p3⟩ := g4 z
          have n6 : ∀ c, c ≠ 6 → (uI τ 6 1 0).1 c = τ.1 c := fun c hc => uI_n hc
          refine k_takeLoan (L := (rdC X.T 0).2.1) (ru := (rdC X.T 0).2.2) ⟨by rw [n6 8 (by decide)]; exact p1.1, fun i q h => by rw [n6 10 (by decide)]; exact p1.2 i q h⟩ p3 (fun j hj => by rw [n6 9 (by decide)]; exact p2 j hj) (fun ρ f1 f2 f3 f4 f5 f6 a1 a2 a3 a4 => ?_)
          have ext : xText X i = ((rdC X.T 0).2.2 1, (X.t0, X.S, X.s, some (rdC X.T 0).2.2, H0 (wLoan (rdC X.T 0).2.2 (rdC X.T 0).2.1), none)) := by unfold xText; rw [if_pos e0, if_pos z]; rfl
          rw [ext] at hq
          have fa : ∀ c, c ∉ [1, 2, 6, 8, 9, 10, 11, 15, 64] → ρ.1 c = σ.1 c := fun c hc => by
            simp only [List.mem_cons, List.not_mem_nil, or_false, not_or] at hc
            rw [f1 c (by simp only [List.mem_cons, List.not_mem_nil, or_false, not_or]; omega), n6 c (by omega), g1 c (by omega) (by omega) (by omega) (by omega)]
          have h4' : HC ρ (H0 (wLoan (rdC X.T 0).2.2 (rdC X.T 0).2.1)) := ⟨0, by omega, by rw [a2]; rfl, by rw [a1]; rfl, by rw [a3]; rfl, by show 0 ≤ 40; omega, by show 0 ≤ 0; omega, fun j hj => absurd hj (by show ¬ j < 0; omega), fun p q hp => absurd hp (by show ¬ p < 0; omega)⟩
          exact hq ρ (fun c hc => fa c (by simp only [List.mem_cons, List.not_mem_nil, or_false, not_or]; omega)) (f2.trans g2) ⟨TK.t0 (by rw [f1 6 (by decide), uI_at]), h2.fr (fa 12 (by decide)) (fa 14 (by decide)) (fa 13 (by decide)), fun j hj => by rw [fa 4 (by decide)]; exact h3 j hj, h4', a4, f6, f4, Or.inr f5, fun k => absurd (f5.symm.trans k) (by decide)⟩
        · refine And.intro (fun k => absurd (rdC_one h1.1 k) z) (fun _ => bad τ g1 g2 (by unfold xText; rw [if_pos e0, if_neg z]))
  · exact bad σ (fun _ _ _ _ _ => rfl) rfl (by unfold xText; rw [if_neg (by omega), if_neg (by omega), if_neg (by omega)])
end KTx
