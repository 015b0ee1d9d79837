-- texts taken: the reference
theorem clF_PW (T : Tp) (b : Nat) : ∀ m p had L r, p ≤ T.n → PW b had L r → (clF T b m p had L r).1 = -1 → ∃ had', PW b had' (clF T b m p had L r).2.1 (clF T b m p had L r).2.2
  | 0, p, had, L, r, hp, hW, h => absurd (show (p : Int) = -1 from h) (by omega)
  | m + 1, p, had, L, r, hp, hW, h => by
    have hk := sk_in hp
    have ki := kdW_in (ch T (sk T p))
    unfold clF at h ⊢
    by_cases q : clOk b had L (kdW (ch T (sk T p)))
    · rw [if_neg (fun k => k q)] at h ⊢
      have hpn : sk T p < T.n := by
        by_cases z : sk T p < T.n
        · exact z
        · exfalso
          have hc9 : ch T (sk T p) = -1 := by unfold ch; rw [if_neg z]
          rw [hc9, kdW_end.1] at q
          exact q.1 rfl
      have hs4 : (kdW (ch T (sk T p))).toNat < 4 := by have := q.1; omega
      have ci := clI_in (T := T) (r := r) hs4 hpn
      by_cases g : itG T (clI T (kdW (ch T (sk T p))).toNat (sk T p) r) = -1
      · rw [if_neg (fun k => k g)] at h ⊢
        have q' : clOk b had L (((kdW (ch T (sk T p))).toNat : Nat) : Int) := by
          rw [show (((kdW (ch T (sk T p))).toNat : Nat) : Int) = kdW (ch T (sk T p)) by have := q.1; omega]
          exact q
        have hP := clStep hW hs4 q' hpn g
        by_cases e : (clI T (kdW (ch T (sk T p))).toNat (sk T p) r).1 < T.n
        · rw [if_pos e] at h ⊢
          exact clF_PW T b m _ _ _ _ (by omega) hP h
        · rw [if_neg e] at h ⊢
          exact ⟨_, hP⟩
      · rw [if_pos g] at h
        exact absurd h g
    · rw [if_pos q] at h
      exact absurd (show (sk T p : Int) = -1 from h) (by omega)
theorem rdC_PW {T : Tp} {b : Nat} (h : (rdC T b).1 = -1) : ∃ had, PW b had (rdC T b).2.1 (rdC T b).2.2 := clF_PW T b (T.n + 1) 0 0 [] (plB 0) (by omega) ⟨⟨by omega, bdB_pl 0 (by omega)⟩, fun q hq9 => by simp at hq9, fun s _ _ => by show 0 ≤ _; omega⟩ h
theorem scF_SW (T : Tp) : ∀ m p L, p ≤ T.n → L.length + m = 16 → SW L → (scF T m p L).1 = -1 → SW (scF T m p L).2 ∧ 1 ≤ (scF T m p L).2.length ∧ (scF T m p L).2.length ≤ 16
  | 0, p, L, hp, hm, hS, h => absurd (show (p : Int) = -1 from h) (by omega)
  | m + 1, p, L, hp, hm, hS, h => by
    have hk := sk_in hp
    have hl := scL_len T p L
    unfold scF at h ⊢
    by_cases q : stW (ch T (sk T p)) = -1
    · rw [if_pos q] at h
      exact absurd (show (sk T p : Int) = -1 from h) (by omega)
    · rw [if_neg q] at h ⊢
      have hpn : sk T p < T.n := by
        by_cases z : sk T p < T.n
        · exact z
        · exfalso
          have hc9 : ch T (sk T p) = -1 := by unfold ch; rw [if_neg z]
          rw [hc9, stW_end.1] at q
          exact q rfl
      have hs := scN_in hpn
      have hk2 := sk_in hs.1.2
      have hA := hS.add hpn
      by_cases g : (scN T p).2.1 = -1
      · rw [if_neg (fun k => k g)] at h ⊢
        by_cases e : sk T (scN T p).1 < T.n
        · rw [if_neg (fun k => k e)] at h ⊢
          by_cases c : ch T (sk T (scN T p).1) ≠ 59 ∨ 16 ≤ L.length + 1
          · rw [if_pos c] at h
            exact absurd (show (sk T (scN T p).1 : Int) = -1 from h) (by omega)
          · rw [if_neg c] at h ⊢
            exact scF_SW T m _ _ (by omega) (by omega) hA h
        · rw [if_pos e] at h ⊢
          exact ⟨hA, by show 1 ≤ (scL T p L).length; omega, by show (scL T p L).length ≤ 16; omega⟩
      · rw [if_pos g] at h
        exact absurd h g
theorem rdS_SW {T : Tp} (h : (rdS' T).1 = -1) : SW (rdS' T).2 ∧ 1 ≤ (rdS' T).2.length ∧ (rdS' T).2.length ≤ 16 := scF_SW T 16 0 [] (by omega) rfl (fun q hq9 => by simp at hq9) h
theorem SM.frj {σ τ : Mm} {S : Sc} (h : SM σ S) (e1 : τ.1 98 16 = σ.1 98 16) (e2 : ∀ j, j < 4 → τ.1 107 j = σ.1 107 j) (e3 : ∀ j, j < 256 → τ.1 106 j = σ.1 106 j) : SM τ S := by
  refine ⟨h.1, by rw [e1]; exact h.2.1, fun s q => by rw [e2 s (by have := h.1.1; omega)]; exact h.2.2.1 s q, fun s i w q1 q2 q3 => ?_⟩
  have a := h.1.1
  have b := h.1.2.1 s q1
  rw [e3 _ (by omega)]
  exact h.2.2.2 s i w q1 q2 q3
theorem ML.fr {σ τ : Mm} {o : Option (Nat → Int)} {H : Hs} {im : Option Im} (h : ML σ o H im) (e1 : τ.1 101 = σ.1 101) (e2 : τ.1 108 = σ.1 108) (e3 : τ.1 110 = σ.1 110) (e4 : τ.1 111 = σ.1 111) (e5 : ∀ k, k ∈ [17, 24, 25, 26] → τ.1 98 k = σ.1 98 k) : ML τ o H im := by
  unfold ML at h ⊢
  cases o with
  | none =>
    dsimp only at h ⊢
    rw [e5 17 (by decide), e5 26 (by decide), e5 25 (by decide), e5 24 (by decide), e2]
    exact h
  | some ru =>
    refine ⟨by rw [e5 17 (by decide)]; exact h.1, h.2.1.fr e1, ?_, ?_⟩
    · obtain ⟨h1, F, h2⟩ := h.2.2.1
      exact ⟨by rw [e2]; exact h1, F, h2.fr (e5 24 (by decide)) (e5 25 (by decide)) e4 (fun _ _ _ _ => rfl)⟩
    · have := h.2.2.2
      unfold IM at this ⊢
      rw [e3, e5 26 (by decide)]
      exact this
theorem MS.fr {σ τ : Mm} {X : Xw} (h : MS σ X) (e1 : ∀ c, c ∈ [99, 101, 105, 108, 110, 111] → τ.1 c = σ.1 c) (e2 : ∀ k, k ∈ [2, 16, 17, 24, 25, 26, 27] → τ.1 98 k = σ.1 98 k) (e3 : ∀ j, j < 256 → τ.1 106 j = σ.1 106 j) (e4 : ∀ j, j < 4 → τ.1 107 j = σ.1 107 j) : MS τ X := by
  obtain ⟨h1, h2, h3, h4, h5⟩ := h
  exact ⟨h1.fr (e2 2 (by decide)) (e1 99 (by decide)), h2.frj (e2 16 (by decide)) e4 e3, fun j hj => by rw [e1 105 (by decide)]; exact h3 j hj, by rw [e2 27 (by decide)]; exact h4, h5.fr (e1 101 (by decide)) (e1 108 (by decide)) (e1 110 (by decide)) (e1 111 (by decide)) (fun k hk => e2 k (by
    simp only [List.mem_cons, List.not_mem_nil, or_false] at hk ⊢
    omega))⟩
theorem MS.fx {σ τ : Mm} {X : Xw} (h : MS σ X) (f : FX σ τ) : MS τ X := h.fr (fun c hc => f.1 c (by
    simp only [List.mem_cons, List.not_mem_nil, or_false, not_or] at hc ⊢
    omega)) (fun k hk => f.2.2.1 k (by
    simp only [List.mem_cons, List.not_mem_nil, or_false, not_or] at hk ⊢
    omega)) f.2.2.2.1 f.2.2.2.2
section MTx
variable {l : Launch} {G : GT} {d : Nat} {σ : Mm} {Q : Po} {X : Xw} {N : Nat}
theorem c_text {x : Int32} (hG : GX G) (i : Int) (ri : R31 i) (hM : MS σ X) (hX : XI N X) (hq : ∀ τ : Mm, (∀ c, c < 98 → τ.1 c = σ.1 c) → τ.2 = σ.2 → MS τ (xText X i).2 → Q (some (.int (jI (xText X i).1))) τ) (ex : x = jI i := by first | rfl | assumption | (simp only [jlit, jneg, jadd, jsub, jmul]; done) | (simp only [jlit, jneg, jadd, jsub, jmul]; congr 1 <;> omega) | (congr 1 <;> omega)) : MW l G (d + 9) mX12_text [.ref 98, .int x] σ Q := by
  have sc := hM.2.1.1.1
  have n320 := hM.1.1
  obtain ⟨σ0, hσ0⟩ : ∃ σ0, σ0 = uI σ 98 0 0 := ⟨_, rfl⟩
  have z1 : ∀ c, c ≠ 98 → σ0.1 c = σ.1 c := fun c hc => by rw [hσ0, uI_n hc]
  have z2 : ∀ k, k ≠ 0 → σ0.1 98 k = σ.1 98 k := fun k hk => by rw [hσ0, uI_ne (Or.inr hk)]
  have z3 : σ0.2 = σ.2 := by rw [hσ0]; rfl
  have hM0 : MS σ0 X := hM.fr (fun c hc => z1 c (by rintro rfl; exact absurd hc (by decide))) (fun k hk => z2 k (by rintro rfl; exact absurd hk (by decide))) (fun j _ => by rw [z1 106 (by decide)]) (fun j _ => by rw [z1 107 (by decide)])
  have bad : ∀ τ : Mm, (∀ c, c < 98 → τ.1 c = σ.1 c) → τ.2 = σ.2 → MS τ X → xText X i = (-1, X) → Q (some (.int (-1))) τ := by
    intro τ e1 e2 hMt e
    rw [e] at hq
    exact hq τ e1 e2 hMt
  have bad0 : xText X i = (-1, X) → Q (some (.int (-1))) σ0 := bad σ0 (fun c hc => z1 c (by omega)) z3 hM0
  have f98 : ∀ τ : Mm, FX σ0 τ → (∀ c, c < 98 → τ.1 c = σ.1 c) := fun τ f c hc => by
    rw [f.1 c (by simp only [List.mem_cons, List.not_mem_nil, or_false, not_or]; omega), z1 c (by omega)]
  refine vX12_text [(42, [0, 1])] 60 ?_
  refine c_isIn i 0 2 ?_ (by rw [ex, jI_L ri]) rfl rfl
  rw [← hσ0]
  refine brz _ (fun q => ?_) (fun q => ?_)
  · exact bad0 (by unfold xText; rw [if_neg (by omega), if_neg (by omega), if_neg (by omega)])
  refine breq i 1 (fun e1 => ?_) (fun e1 => ?_) (hx := ex) (hy := rfl)
  · -- a script
    refine breq (X.S.c : Int) 4 (fun c4 => ?_) (fun c4 => ?_) (hx := hM0.2.1.2.1) (hy := rfl)
    · exact bad0 (by unfold xText; rw [if_neg (by omega), if_pos e1, if_neg (fun z => by have := z.1; omega)])
    · refine breq i 2 (fun k => by omega) (fun _ => ?_) (hx := ex) (hy := rfl)
      refine wX12_text [(78, [0, 1, 2, 3])] 60 ?_
      refine c_fault hG i ri hM0.1 (fun τ g1 _ _ g4 => ?_) ex
      have eF : aFault X.T i = (rdS' X.T).1 := by unfold aFault; rw [if_pos q, if_pos e1]
      rw [eF]
      have hMt := hM0.fx g1
      by_cases z : (rdS' X.T).1 = -1
      · rw [z]
        refine breq (-1) (-1) (fun _ => ?_) (fun k => absurd rfl k) (hx := rfl) (hy := rfl)
        refine breq i 2 (fun k => by omega) (fun _ => ?_) (hx := ex) (hy := rfl)
        refine breq i 1 (fun _ => ?_) (fun k => absurd e1 k) (hx := ex) (hy := rfl)
        obtain ⟨g41, g42⟩ := g4 e1 z
        obtain ⟨w1, w2, w3⟩ := rdS_SW z
        have ext : xText X i = ((X.S.c : Int), (X.t0, sNew X.S (rdS' X.T).2, X.s, X.o, X.H, X.im)) := by unfold xText; rw [if_neg (by omega), if_pos e1, if_pos ⟨by omega, z⟩]; rfl
        rw [ext] at hq
        have n2 : ∀ c, c ≠ 98 → (uI τ 98 2 0).1 c = τ.1 c := fun c hc => uI_n hc
        have key : ∀ (m k : Nat) (u : Int32) (ρ : Mm), k + m = 64 → u = jI (k : Int) → (∀ c, c ≠ 106 → ρ.1 c = (uI τ 98 2 0).1 c) → ρ.2 = σ.2 → (∀ j, ¬ (64 * X.S.c ≤ j ∧ j < 64 * X.S.c + k) → ρ.1 106 j = τ.1 106 j) → (∀ j, j < k → ρ.1 106 (64 * X.S.c + j) = τ.1 106 (256 + j)) → Wp l G (d + 9) mX12_text 78 [(0, .ref 98), (1, .int x), (2, .int 64), (3, .int u)] [] ρ Q := by
          intro m
          induction m with
          | zero =>
            intro k u ρ hm hu r1 r2 r3 r4
            have c16 : ρ.1 98 16 = jI (X.S.c : Int) := by rw [r1 98 (by decide), uI_ne (Or.inr (by decide))]; exact hMt.2.1.2.1
            have r7 : ∀ j, ρ.1 107 j = τ.1 107 j := fun j => by rw [r1 107 (by decide), n2 107 (by decide)]
            refine wX12_text [] 60 ?_
            refine brle 64 (k : Int) (fun _ => ?_) (fun q => by omega) (hx := rfl) (hy := hu)
            refine ldI 5 4 (show _ = jI ((rdS' X.T).2.length : Int) by rw [r7]; exact g42) ?_ (hi := rfl)
            refine stI 5 X.S.c ?_ (hi := c16)
            obtain ⟨π, hπ⟩ : ∃ π, π = uI (uI ρ 107 X.S.c (jI ((rdS' X.T).2.length : Int))) 98 16 ((uI ρ 107 X.S.c (jI ((rdS' X.T).2.length : Int))).1 98 16 + 1) := ⟨_, rfl⟩
            have p16 : π.1 98 16 = jI ((X.S.c + 1 : Nat) : Int) := by
              rw [hπ, uI_at, uI_n (by decide), c16]
              simp only [jlit, jadd]
              congr 1
            have pc : ∀ c, c ≠ 98 → c ≠ 107 → π.1 c = ρ.1 c := fun c k1 k2 => by rw [hπ, uI_n k1, uI_n k2]
            have pk : ∀ j, j ≠ 16 → π.1 98 j = ρ.1 98 j := fun j hj => by rw [hπ, uI_ne (Or.inr hj), uI_n (by decide)]
            have p7 : ∀ j, π.1 107 j = if j = X.S.c then jI ((rdS' X.T).2.length : Int) else τ.1 107 j := fun j => by
              rw [hπ, uI_n (by decide)]
              by_cases e : j = X.S.c
              · rw [if_pos e, e, uI_at]
              · rw [if_neg e, uI_ne (Or.inr e), r7]
            have gc : ∀ c, c ∉ [98, 106, 107] → π.1 c = τ.1 c := fun c hc => by
              simp only [List.mem_cons, List.not_mem_nil, or_false, not_or] at hc
              rw [pc c hc.1 hc.2.2, r1 c hc.2.1, n2 c hc.1]
            have gk : ∀ j, j ≠ 2 → j ≠ 16 → π.1 98 j = τ.1 98 j := fun j j1 j2 => by rw [pk j j2, r1 98 (by decide), uI_ne (Or.inr j1)]
            have fin := hq π (fun c hc => by rw [gc c (by simp only [List.mem_cons, List.not_mem_nil, or_false, not_or]; omega)]; exact f98 τ g1 c hc) (by rw [hπ]; exact r2) ⟨TM.t0 (by rw [pk 2 (by decide), r1 98 (by decide), uI_at]), ⟨SB_new hMt.2.1.1 (by omega) w1 w2 w3, ?_, fun s hs => ?_, fun s i w hs hi hw => ?_⟩, fun j hj => by rw [gc 105 (by decide)]; exact hMt.2.2.1 j hj, by rw [gk 27 (by decide) (by decide)]; exact hMt.2.2.2.1, hMt.2.2.2.2.fr (gc 101 (by decide)) (gc 108 (by decide)) (gc 110 (by decide)) (gc 111 (by decide)) (fun k hk => gk k (by rintro rfl; exact absurd hk (by decide)) (by rintro rfl; exact absurd hk (by decide)))⟩
            · have er : jI (X.S.c : Int) = π.1 98 16 - 1 := by
                rw [p16]
                simp only [jlit, jsub]
                congr 1
                omega
              rw [er, hπ] at fin
              exact fin
            · rw [p16]
              rfl
            · rw [p7 s]
              show _ = jI ((sNew X.S (rdS' X.T).2).sz s : Int)
              rw [sNew_sz]
              by_cases e : s = X.S.c
              · rw [if_pos e, if_pos e]
              · rw [if_neg e, if_neg e]
                have hs : s < X.S.c + 1 := hs
                exact hMt.2.1.2.2.1 s (by omega)
            · have hs : s < X.S.c + 1 := hs
              have hi : i < (sNew X.S (rdS' X.T).2).sz s := hi
              rw [sNew_sz] at hi
              rw [pc 106 (by decide) (by decide)]
              show _ = jI ((sNew X.S (rdS' X.T).2).st s i w)
              by_cases e : s = X.S.c
              · rw [if_pos e] at hi
                obtain ⟨q, hqi⟩ : ∃ q, (rdS' X.T).2[i]? = some q := ⟨_, List.getElem?_eq_getElem hi⟩
                have hp := g41 i q hqi
                rw [e, sNew_new X.S _ hqi hw, show 64 * X.S.c + 4 * i + w = 64 * X.S.c + (4 * i + w) by omega, r4 _ (by omega)]
                by_cases w0 : w = 0
                · rw [if_pos w0, w0]
                  exact hp.1
                · rw [if_neg w0]
                  have := hp.2 (w - 1) (by omega)
                  rw [show 256 + 4 * i + 1 + (w - 1) = 256 + (4 * i + w) by omega] at this
                  exact this
              · rw [if_neg e] at hi
                have hs' : s < X.S.c := by omega
                have hsz := hMt.2.1.1.2.1 s hs'
                rw [r3 _ (by omega), sNew_old X.S _ hs' (by omega) hw]
                exact hMt.2.1.2.2.2 s i w hs' hi hw
          | succ m ih =>
            intro k u ρ hm hu r1 r2 r3 r4
            have c16 : ρ.1 98 16 = jI (X.S.c : Int) := by rw [r1 98 (by decide), uI_ne (Or.inr (by decide))]; exact hMt.2.1.2.1
            refine wX12_text [(78, [0, 1, 2, 3])] 60 ?_
            refine brle 64 (k : Int) (fun q => by omega) (fun _ => ?_) (hx := rfl) (hy := hu)
            refine ldI 320 (256 + k) (show _ = τ.1 106 (256 + k) by rw [r3 _ (by omega)]) ?_ (hi := by rw [hu]; simp only [jlit, jmul, jadd]; congr 1)
            refine stI 320 (64 * X.S.c + k) ?_ (hi := by rw [c16, hu]; simp only [jlit, jmul, jadd]; congr 1)
            refine ih (k + 1) _ _ (by omega) (by rw [hu]; simp only [jlit, jadd]; congr 1) (fun c hc => by rw [uI_n hc]; exact r1 c hc) r2 (fun j hj => by rw [uI_ne (Or.inr (by omega))]; exact r3 j (by omega)) (fun j hj => ?_)
            by_cases e : j = k
            · rw [e, uI_at]
            · rw [uI_ne (Or.inr (by omega))]
              exact r4 j (by omega)
        exact key 64 0 _ _ (by omega) rfl (fun _ _ => rfl) (g1.2.1.trans z3) (fun j _ => by rw [n2 106 (by decide)]) (fun j hj => by omega)
      · exact And.intro (fun k => absurd (rdS_one n320 k) z) (fun _ => bad τ (f98 τ g1) (g1.2.1.trans z3) hMt (by unfold xText; rw [if_neg (by omega), if_pos e1, if_neg (fun k => z k.2)]))
  · by_cases e2 : i = 2
    · -- a policy
      refine breq i 2 (fun _ => ?_) (fun k => absurd e2 k) (hx := ex) (hy := rfl)
      cases ho : X.o with
      | none =>
        have h5 := hM0.2.2.2.2
        unfold ML at h5
        rw [ho] at h5
        refine And.intro (fun _ => ?_) (fun k => absurd h5.1 k)
        exact bad0 (by unfold xText; rw [if_neg (by omega), if_neg e1, if_pos e2, ho])
      | some ru =>
        have h5 := hM0.2.2.2.2
        unfold ML at h5
        rw [ho] at h5
        refine And.intro (fun k => absurd (h5.1.symm.trans k) (by decide)) (fun _ => ?_)
        refine wX12_text [] 60 ?_
        refine c_fault hG i ri hM0.1 (fun τ g1 _ g3 _ => ?_) ex
        have eF : aFault X.T i = (rdC X.T 2).1 := by unfold aFault; rw [if_pos q, if_neg e1, e2]; rfl
        rw [eF]
        have hMt := hM0.fx g1
        by_cases z : (rdC X.T 2).1 = -1
        · rw [z]
          refine breq (-1) (-1) (fun _ => ?_) (fun k => absurd rfl k) (hx := rfl) (hy := rfl)
          refine breq i 2 (fun _ => ?_) (fun k => absurd e2 k) (hx := ex) (hy := rfl)
          have g3 := g3 e2 z
          obtain ⟨had, p3⟩ := rdC_PW z
          have h6 := hMt.2.2.2.2
          unfold ML at h6
          rw [ho] at h6
          have n2 : ∀ c, c ≠ 98 → (uI τ 98 2 0).1 c = τ.1 c := fun c hc => uI_n hc
          have e1u : ∀ k, k ≠ 2 → (uI τ 98 2 0).1 98 k = τ.1 98 k := fun k hk => uI_ne (Or.inr hk)
          obtain ⟨hRw, F, hKp⟩ := h6.2.2.1
          have hMr : Mr (uI τ 98 2 0) ru 108 X.H.W := hRw.mr.fr (fun k _ => by rw [n2 108 (by decide)]) h6.2.1.1
          refine c_tellsPolicy (ru := ru) (W := X.H.W) (h6.2.1.fr (n2 101 (by decide))) (by rw [e1u 17 (by decide)]; exact h6.1) ⟨by rw [e1u 15 (by decide)]; exact g3.1, g3.2.fr (n2 _ (by decide))⟩ p3 hMr (fun ρ f1 f2 f3 f4 => ?_)
          have ext : xText X i = ((allN (wNz (wPolT ru X.H.W (rdC X.T 2).2.1)) (ru 1).toNat : Int), (X.t0, X.S, X.s, some ru, (wPolT ru X.H.W (rdC X.T 2).2.1, X.H.2), X.im)) := by unfold xText; rw [if_neg (by omega), if_neg e1, if_pos e2, ho]; show (if (rdC X.T 2).1 = -1 then _ else _) = _; rw [if_pos z]; rfl
          rw [ext] at hq
          have gc : ∀ c, c ≠ 98 → c ≠ 108 → ρ.1 c = τ.1 c := fun c k1 k2 => by rw [f1 c k2, n2 c k1]
          have gk : ∀ k, k ≠ 2 → ρ.1 98 k = τ.1 98 k := fun k hk => by rw [f1 98 (by decide), e1u k hk]
          refine hq ρ (fun c hc => by rw [gc c (by omega) (by omega)]; exact f98 τ g1 c hc) (f2.trans (g1.2.1.trans z3)) ⟨TM.t0 (by rw [f1 98 (by decide), uI_at]), hMt.2.1.fr (gk 16 (by decide)) (gc 107 (by decide) (by decide)) (gc 106 (by decide) (by decide)), fun j hj => by rw [gc 105 (by decide) (by decide)]; exact hMt.2.2.1 j hj, by rw [gk 27 (by decide)]; exact hMt.2.2.2.1, by rw [gk 17 (by decide)]; exact h6.1, h6.2.1.fr (gc 101 (by decide) (by decide)), ⟨⟨f4, ?_, fun i q hi hq2 => ?_⟩, F, hKp.fr (gk 24 (by decide)) (gk 25 (by decide)) (gc 111 (by decide) (by decide)) (fun _ _ _ _ => rfl)⟩, ?_⟩
          · rw [f3 313 (by omega), n2 108 (by decide)]
            exact hRw.2.1
          · rw [f3 _ (by omega), n2 108 (by decide)]
            exact hRw.2.2 i q hi hq2
          · have := h6.2.2.2
            unfold IM at this
            show IM ρ ru X.im
            unfold IM
            rw [gk 26 (by decide), gc 110 (by decide) (by decide)]
            exact this
        · exact And.intro (fun k => absurd (rdC_one n320 k) z) (fun _ => bad τ (f98 τ g1) (g1.2.1.trans z3) hMt (by unfold xText; rw [if_neg (by omega), if_neg e1, if_pos e2, ho]; show (if (rdC X.T 2).1 = -1 then _ else _) = _; rw [if_neg z]))
    · -- a loan
      have e0 : i = 0 := by omega
      refine breq i 2 (fun k => absurd k e2) (fun _ => ?_) (hx := ex) (hy := rfl)
      refine wX12_text [] 60 ?_
      refine c_fault hG i ri hM0.1 (fun τ g1 g2 _ _ => ?_) ex
      have eF : aFault X.T i = (rdC X.T 0).1 := by unfold aFault; rw [if_pos q, if_neg e1, e0]; rfl
      rw [eF]
      have hMt := hM0.fx g1
      by_cases z : (rdC X.T 0).1 = -1
      · rw [z]
        refine breq (-1) (-1) (fun _ => ?_) (fun k => absurd rfl k) (hx := rfl) (hy := rfl)
        refine breq i 2 (fun k => absurd k e2) (fun _ => ?_) (hx := ex) (hy := rfl)
        refine breq i 1 (fun k => absurd k e1) (fun _ => ?_) (hx := ex) (hy := rfl)
        have g2 := g2 e0 z
        obtain ⟨had, p3⟩ := rdC_PW z
        have n2 : ∀ c, c ≠ 98 → (uI τ 98 2 0).1 c = τ.1 c := fun c hc => uI_n hc
        have e1u : ∀ k, k ≠ 2 → (uI τ 98 2 0).1 98 k = τ.1 98 k := fun k hk => uI_ne (Or.inr hk)
        refine c_begins (L := (rdC X.T 0).2.1) (ru := (rdC X.T 0).2.2) ⟨by rw [e1u 13 (by decide)]; exact g2.1, by rw [e1u 14 (by decide)]; exact g2.2.1, fun j hj => by rw [n2 100 (by decide)]; exact g2.2.2.1 j hj, g2.2.2.2.1.fr (n2 _ (by decide)), g2.2.2.2.2.fr (n2 _ (by decide))⟩ p3 (fun ρ f1 f2 f3 f4 f5 f6 f7 f8 f9 => ?_)
        refine ldI 14 1 (f4.2 1 (by omega)) ?_ (hi := rfl)
        have ext : xText X i = ((rdC X.T 0).2.2 1, (X.t0, X.S, X.s, some (rdC X.T 0).2.2, H0 (wLoan (rdC X.T 0).2.2 (rdC X.T 0).2.1), none)) := by unfold xText; rw [if_pos e0, if_pos z]; rfl
        rw [ext] at hq
        have gc : ∀ c, c ≠ 98 → c ≠ 101 → c ≠ 108 → ρ.1 c = τ.1 c := fun c k1 k2 k3 => by rw [f1 c k1 k2 k3, n2 c k1]
        have gk : ∀ k, k ≠ 2 → k ≠ 17 → k ≠ 25 → k ≠ 26 → ρ.1 98 k = τ.1 98 k := fun k k1 k2 k3 k4 => by rw [f3 k k2 k3 k4, e1u k k1]
        have hF : ∃ F : Nat, F < 40 ∧ τ.1 98 24 = jI (F : Int) := by
          have h6 := hMt.2.2.2.2
          unfold ML at h6
          cases ho : X.o with
          | none =>
            rw [ho] at h6
            exact h6.2.2.2.2
          | some ru =>
            rw [ho] at h6
            obtain ⟨_, F, hk⟩ := h6.2.2.1
            exact ⟨F, hk.2.2.1, hk.2.2.2.1⟩
        obtain ⟨F, hF1, hF2⟩ := hF
        refine hq ρ (fun c hc => by rw [gc c (by omega) (by omega) (by omega)]; exact f98 τ g1 c hc) (f2.trans (g1.2.1.trans z3)) ⟨TM.t0 (by rw [f3 2 (by decide) (by decide) (by decide), uI_at]), hMt.2.1.fr (gk 16 (by decide) (by decide) (by decide) (by decide)) (gc 107 (by decide) (by decide) (by decide)) (gc 106 (by decide) (by decide) (by decide)), fun j hj => by rw [gc 105 (by decide) (by decide) (by decide)]; exact hMt.2.2.1 j hj, by rw [gk 27 (by decide) (by decide) (by decide) (by decide)]; exact hMt.2.2.2.1, f5, f4, ⟨⟨f9, f8, fun i q hi => absurd hi (by show ¬ i < min 60 0; omega)⟩, F, by show 0 ≤ 40; omega, by show 0 ≤ 0; omega, hF1, by rw [gk 24 (by decide) (by decide) (by decide) (by decide)]; exact hF2, f6, fun j hj => absurd hj (by show ¬ j < 0; omega)⟩, f7⟩
      · exact And.intro (fun k => absurd (rdC_one n320 k) z) (fun _ => bad τ (f98 τ g1) (g1.2.1.trans z3) hMt (by unfold xText; rw [if_pos e0, if_neg z]))
end MTx
