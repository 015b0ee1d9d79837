-- all ways, or one: the class
def lo (j : Nat) : Nat := if j = 0 then 31 else if j = 1 then 72 else 84
def tA (o : Nat) : List Nat := o :: bS o
def wS (j : Nat) : List Nat := if j = 0 then 69 :: (tA 72 ++ tA 84) else if j = 1 then 69 :: tA 84 else [69]
def FLw (j : Nat) (σ τ : Mm) : Prop := (∀ c, c ∉ wS j → τ.1 c = σ.1 c) ∧ (∀ c, c ≠ 71 → τ.2 c = σ.2 c) ∧ (∀ k, 8 ≤ k → τ.1 69 k = σ.1 69 k)
theorem FLw.rf {j : Nat} {σ : Mm} : FLw j σ σ := ⟨fun _ _ => rfl, fun _ _ => rfl, fun _ _ => rfl⟩
theorem FLw.tr {j : Nat} {σ τ ρ : Mm} (h : FLw j σ τ) (g : FLw j τ ρ) : FLw j σ ρ := ⟨fun c hc => (g.1 c hc).trans (h.1 c hc), fun c hc => (g.2.1 c hc).trans (h.2.1 c hc), fun k hk => (g.2.2 k hk).trans (h.2.2 k hk)⟩
theorem wS_up (j : Nat) : ∀ c, c ∉ wS j → c ∉ wS (j + 1) := by
  intro c hc
  unfold wS at hc ⊢
  by_cases q0 : j = 0
  · rw [if_pos q0] at hc
    rw [if_neg (by omega), if_pos (by omega)]
    intro z
    apply hc
    rcases List.mem_cons.mp z with z | z
    · exact List.mem_cons.mpr (Or.inl z)
    · exact List.mem_cons.mpr (Or.inr (List.mem_append.mpr (Or.inr z)))
  · rw [if_neg q0] at hc
    rw [if_neg (by omega), if_neg (by omega)]
    by_cases q1 : j = 1
    · rw [if_pos q1] at hc
      intro z
      apply hc
      rcases List.mem_cons.mp z with z | z
      · exact List.mem_cons.mpr (Or.inl z)
      · simp at z
    · rw [if_neg q1] at hc
      exact hc
theorem FLw.up {j : Nat} {σ τ : Mm} (h : FLw (j + 1) σ τ) : FLw j σ τ := ⟨fun c hc => h.1 c (wS_up j c hc), h.2⟩
theorem wS_sub {j : Nat} (hj : j ≤ 2) {c : Nat} (h : c ∉ wS 0) : c ∉ wS j := by
  have : j = 0 ∨ j = 1 ∨ j = 2 := by omega
  rcases this with rfl | rfl | rfl
  · exact h
  · exact wS_up 0 c h
  · exact wS_up 1 c (wS_up 0 c h)
def WX (σ : Mm) (ru : Nat → Int) (W : Wk) (all : Bool) (x : Int32) : Prop := RC σ ru ∧ LC σ ru W.am ∧ SC σ ru W.ra ∧ (∀ j : Nat, j < W.r → ∀ t h : Nat, ru 9 + ru 10 ≤ t → (t : Int) < ru 1 → h ≤ t → σ.1 (57 + j) (nd t h) = jI (zN ru W.am W.ra none (j + 1) t h)) ∧ σ.1 69 12 = (if all = true then 1 else 0) ∧ σ.1 69 13 = x ∧ σ.1 69 14 = jI (W.f 0)
theorem WX.fr {σ τ : Mm} {ru : Nat → Int} {W : Wk} {all : Bool} {x : Int32} {j : Nat} (h : WX σ ru W all x) (hW : W.r ≤ 2) (hj : j ≤ 2) (f : FLw j σ τ) : WX τ ru W all x := by
  obtain ⟨a1, a2, a3, a4, a5, a6, a7⟩ := h
  have g : ∀ c, c ∉ wS 0 → τ.1 c = σ.1 c := fun c hc => f.1 c (wS_sub hj hc)
  refine ⟨a1.fr (g 1 (by decide)), a2.fr (g 16 (by decide)) (g 17 (by decide)) (g 18 (by decide)), a3.fr (g 55 (by decide)), fun i hi t h q1 q2 q3 => ?_, by rw [f.2.2 12 (by omega)]; exact a5, by rw [f.2.2 13 (by omega)]; exact a6, by rw [f.2.2 14 (by omega)]; exact a7⟩
  have : 57 + i ∉ wS 0 := by
    have : i = 0 ∨ i = 1 := by omega
    rcases this with rfl | rfl <;> decide
  rw [g _ this]
  exact a4 i hi t h q1 q2 q3
def Tv (σ : Mm) (j : Nat) (ru : Nat → Int) (W U : Wk) : Prop := σ.1 (lo j) 5 = jI (U.f 2) ∧ σ.1 (lo j) 6 = jI (U.f 3) ∧ ∀ t h : Nat, U.t ≤ t → (t : Int) < ru 1 → U.h ≤ h → h ≤ U.h + (t - U.t) → Nt σ (lo j) ru W.am W.ra none U.r (U.f 2) (zN ru W.am W.ra none U.r) t h
theorem lo_wS {j : Nat} (hj : j ≤ 2) : lo j ∉ wS j ∧ (∀ a, a ∈ bS (lo j) → a ∉ wS j) := by
  have : j = 0 ∨ j = 1 ∨ j = 2 := by omega
  rcases this with rfl | rfl | rfl <;> decide
theorem Tv.fr {σ τ : Mm} {j : Nat} {ru : Nat → Int} {W U : Wk} (hr : RB ru) (hj : j ≤ 2) (h : Tv σ j ru W U) (f : FLw j σ τ) : Tv τ j ru W U := by
  have w := lo_wS hj
  exact ⟨by rw [f.1 _ w.1]; exact h.1, by rw [f.1 _ w.1]; exact h.2.1, fun t k q1 q2 q3 q4 => (h.2.2 t k q1 q2 q3 q4).fr2 hr (fun a ha => f.1 a (w.2 a ha))⟩
/-- behind a year, on the same loan -/
theorem Tv.next {σ : Mm} {j : Nat} {ru : Nat → Int} {W U P : Wk} (h : Tv σ j ru W U) (e2 : P.f 2 = U.f 2) (e3 : P.f 3 = U.f 3) (et : P.t = U.t + 1) (eh : U.h ≤ P.h ∧ P.h ≤ U.h + 1) : Tv σ j ru W P := by
  have er : P.r = U.r := by unfold Wk.r; rw [e3]
  refine ⟨by rw [e2]; exact h.1, by rw [e3]; exact h.2.1, fun t k q1 q2 q3 q4 => ?_⟩
  rw [er, e2]
  exact h.2.2 t k (by omega) q2 (by omega) (by omega)
theorem wPass_c0 {ru : Nat → Int} {U : Wk} (up : Int) (h4 : U.f 4 = 0) : (wPass ru U up).f 4 = 0 ∧ (wPass ru U up).f 11 = U.f 11 ∧ (wPass ru U up).f 3 = U.f 3 ∧ (wPass ru U up).f 2 = U.f 2 ∧ (wPass ru U up).f 7 = U.f 7 + zd ru U.am (U.f 2) (U.t + 1) ∧ (wPass ru U up).f 6 = if U.f 0 + 1 = ru 1 then 1 else U.f 6 := by
  have e : wPass2 ru (wPass1 ru U up) = wPass1 ru U up := by
    unfold wPass2
    rw [if_pos (show (wPass1 ru U up).f 4 = 0 from h4)]
  unfold wPass
  rw [e]
  by_cases q : U.f 0 + 1 = ru 1
  · rw [if_pos q, if_pos q]
    exact ⟨h4, rfl, rfl, rfl, rfl, rfl⟩
  · rw [if_neg q, if_neg q]
    exact ⟨h4, rfl, rfl, rfl, rfl, rfl⟩
theorem wPass_c2 {ru : Nat → Int} {U : Wk} (up : Int) (h4 : U.f 4 ≠ 0) (h5 : U.f 5 - 1 ≠ 0) (hl : U.f 0 + 1 ≠ ru 1) : (wPass ru U up).f 4 = U.f 4 ∧ (wPass ru U up).f 5 = U.f 5 - 1 ∧ (wPass ru U up).f 6 = U.f 6 ∧ (wPass ru U up).f 11 = U.f 11 ∧ (wPass ru U up).f 3 = U.f 3 ∧ (wPass ru U up).f 2 = U.f 2 ∧ (wPass ru U up).f 7 = U.f 7 + zd ru U.am (U.f 2) (U.t + 1) := by
  have e : wPass2 ru (wPass1 ru U up) = (wPass1 ru U up).put 5 (U.f 5 - 1) := by
    unfold wPass2
    rw [if_neg (show ¬ (wPass1 ru U up).f 4 = 0 from h4), if_neg (show ¬ (wPass1 ru U up).f 5 - 1 = 0 from h5)]
    rfl
  unfold wPass
  rw [e, if_neg hl]
  exact ⟨rfl, rfl, rfl, rfl, rfl, rfl, rfl⟩
theorem wPass_c1 {ru : Nat → Int} {U : Wk} (up : Int) (h4 : U.f 4 ≠ 0) (h5 : U.f 5 - 1 = 0) (hl : U.f 0 + 1 ≠ ru 1) : wPass ru U up = wRun ru ((wPass1 ru U up).put 5 (U.f 5 - 1)) := by
  have e : wPass2 ru (wPass1 ru U up) = wRun ru ((wPass1 ru U up).put 5 (U.f 5 - 1)) := by
    unfold wPass2
    rw [if_neg (show ¬ (wPass1 ru U up).f 4 = 0 from h4), if_pos (show (wPass1 ru U up).f 5 - 1 = 0 from h5)]
    rfl
  unfold wPass
  rw [e, if_neg hl]
section KWk
variable {l : Launch} {G : GT} {M : Nat} {ru : Nat → Int} {W : Wk} {all : Bool} {x : Int32}
def CAr (l : Launch) (G : GT) (M : Nat) (ru : Nat → Int) (W : Wk) (all : Bool) (x : Int32) (n j : Nat) : Prop := ∀ (D : Nat) (σ : Mm) (A : Ag) (U : Wk) (Q : Po) (a1 a2 a3 a4 : Int32), 3 * n + 3 * (2 - j) + 8 ≤ D → WX σ ru W all x → US ru W U → U.f 4 = 0 → U.f 0 + n = ru 1 → U.f 11 = j → (0 < n → U.f 6 = 0 ∧ Tv σ j ru W U) → AG M σ A → a1 = jI (j : Int) → a2 = jI (U.f 0) → a3 = jI (U.f 1) → a4 = jI (U.f 7) → (∀ τ, FLw j σ τ → AG M τ ((lvN ru all (btI x) n (U.t - W.t) (wkA ru 3 U)).foldl (finA all ru) A) → Q none τ) → MW l G D mX10_arrive [.ref 69, .int a1, .int a2, .int a3, .int a4] σ Q
def CSe (l : Launch) (G : GT) (M : Nat) (ru : Nat → Int) (W : Wk) (all : Bool) (x : Int32) (n j : Nat) : Prop := ∀ (D : Nat) (σ : Mm) (A : Ag) (P : Wk) (Q : Po) (kd s0 : Int) (a1 a2 a3 a4 a5 : Int32), 3 * n + 3 * (2 - j) + 7 ≤ D → WX σ ru W all x → US ru W P → P.f 4 = 0 → P.f 0 + n = ru 1 → 0 < n → (kd = 1 ∧ P.f 6 = 1 ∧ P.f 11 = j ∧ P.f 7 = s0 + zpr ru W.am P.t ∨ kd = 2 ∧ P.f 6 = 0 ∧ P.f 11 = j + 1 ∧ P.f 7 = s0 + (zpr ru W.am P.t - zl ru W.am P.t + ru 13) ∧ P.f 2 = zcp ru W.ra P.t P.h ∧ σ.1 (lo j) 6 = jI (P.f 3 + 1)) → AG M σ A → a1 = jI (j : Int) → a2 = jI (P.f 0) → a3 = jI (P.f 1) → a4 = jI s0 → a5 = jI kd → (∀ τ, FLw j σ τ → AG M τ ((lvN ru all (btI x) n (P.t - W.t) (wkA ru 3 P)).foldl (finA all ru) A) → Q none τ) → MW l G D mX10_settleNotice [.ref 69, .int a1, .int a2, .int a3, .int a4, .int a5] σ Q
def CPy (l : Launch) (G : GT) (M : Nat) (ru : Nat → Int) (W : Wk) (all : Bool) (x : Int32) (n j : Nat) : Prop := ∀ (D : Nat) (σ : Mm) (A : Ag) (U : Wk) (Q : Po) (a1 a2 a3 a4 a5 a6 : Int32), 3 * n + 3 * (2 - j) + 7 ≤ D → WX σ ru W all x → US ru W U → U.f 6 = 0 → U.f 0 + n = ru 1 → U.f 11 = j → Tv σ j ru W U → AG M σ A → a1 = jI (j : Int) → a2 = jI (U.f 0) → a3 = jI (U.f 1) → a4 = jI (U.f 7) → a5 = jI (U.f 4) → a6 = jI (if U.f 4 = 0 then 0 else U.f 5) → (∀ τ, FLw j σ τ → AG M τ ((lvN ru all (btI x) n (U.t - W.t) U).foldl (finA all ru) A) → Q none τ) → MW l G D mX10_passYear [.ref 69, .int a1, .int a2, .int a3, .int a4, .int a5, .int a6] σ Q
theorem lvN_end {b : Nat → Int} {V : Wk} (n k : Nat) (h : V.f 6 ≠ 0) : lvN ru all b n k V = [V] := by
  cases n with
  | zero => rfl
  | succ n => show (if V.f 6 = 0 then _ else [V]) = [V]; rw [if_neg h]
theorem k_settle (hM : M = 163840) (hr : RB ru) (hW : WB ru W) (n j : Nat) (hj : j ≤ 2) (hA : j + 1 ≤ 2 → CAr l G M ru W all x n (j + 1)) : CSe l G M ru W all x n j := by
  intro D σ A P Q kd s0 a1 a2 a3 a4 a5 hD hX hP h4 hn n0 hk hAG e1 e2 e3 e4 e5 hq
  have hr' := hr
  unfold RB at hr'
  have hvW := V_t hW
  have hv := V_t hP.1
  have h7 := US_7 hr hW hP
  have ha : ∀ j, 0 ≤ W.am j := fun j => (hW.2.2.2.2.2.2.2.1 j).1
  have hpr := zpr_in hr ha P.t
  have hl := zl_in hr ha P.t
  obtain ⟨d', rfl⟩ : ∃ d', D = d' + 7 := ⟨D - 7, by omega⟩
  obtain ⟨x1, x2, x3, x4, x5, x6, x7⟩ := hX
  rcases hk with ⟨k1, k6, k11, k7⟩ | ⟨k2, k6, k11, k7, kc, ko⟩
  · -- called
    rw [wkA_stop 3 (by omega), lvN_end n _ (by omega)] at hq
    refine vX10_settleNotice [] 60 ?_
    refine breq kd 1 (fun _ => ?_) (fun q => absurd k1 q) (hx := e5) (hy := rfl)
    refine ldI 13 P.t (x2.2 P.t (by omega)).2.2 ?_ (hi := by rw [e2, hv.1])
    refine k_finish (M := M) all A P hM x1 hAG x5 (by omega) h7 (fun τ g1 g2 g3 g4 => ?_) (by rw [e1, k11]) e2 (by rw [e4, k7, jadd]) (by rw [if_pos (by omega)])
    refine hq τ ⟨fun c hc => g1 c (fun z => hc ?_), g2, g3⟩ g4
    rw [z]
    have : j = 0 ∨ j = 1 ∨ j = 2 := by omega
    rcases this with rfl | rfl | rfl <;> decide
  · -- renewed
    have hj1 : j + 1 ≤ 2 := by
      have a := hP.2.2.1
      have b := hP.1.2.2.1
      have c := hW.2.2.1
      omega
    have hrr : P.r < W.r := by
      have a := hP.2.2.1
      omega
    have hcp : 0 ≤ P.f 2 ∧ P.f 2 ≤ 999 := hP.1.2.1
    have hnd := nd_lt2 (t := P.t) (h := P.h) (by omega) hv.2.2.1
    have hSC := x3 P.t P.h (by omega) hv.2.2.1
    have ea : P.t - W.t = P.t - W.t := rfl
    -- the next table
    have next : ∀ (o : Nat) (σ1 : Mm), o = lo (j + 1) → Tb o → (∀ c, c ∉ wS j → σ1.1 c = σ.1 c) → σ1.2 = σ.2 → (∀ k, σ1.1 69 k = σ.1 69 k) → σ1.1 o 5 = jI (P.f 2) → σ1.1 o 6 = jI (P.f 3) → (∀ Q' : Po, (∀ τ, (∀ c, c ∉ bS o → τ.1 c = σ1.1 c) → τ.2 = σ1.2 → Tv τ (j + 1) ru W P → WX τ ru W all x → AG M τ A → Q' none τ) → MW l G (d' + 6) mX8_build [.ref 15, .ref o, .int a2, .int a3, .int 0] σ1 Q') := by
      intro o σ1 ho hTb f1 f2 f3 f5 f6 Q' hQ'
      have g0 : ∀ c, c ∉ wS 0 → σ1.1 c = σ.1 c := fun c hc => f1 c (wS_sub hj hc)
      refine k_build (o := o) none (zN ru W.am W.ra none P.r) P.r P.t P.h (P.f 2) 0 hTb (x1.fr (g0 1 (by decide))) (x2.fr (g0 16 (by decide)) (g0 17 (by decide)) (g0 18 (by decide))) (x3.fr (g0 55 (by decide))) (by omega) hv.2.2.1 hcp (Or.inl ⟨rfl, rfl⟩) f5 (by rw [hv.2.2.2.1]; exact f6) hv.2.2.2.2 (fun q => by omega) (fun q0 _ t h q1 q2 q3 => ?_) (fun q => by omega) (fun _ t h q1 q2 => ?_) (fun τ g1 g2 g3 => ?_) (by rw [e2, hv.1]) (by rw [e3, hv.2.1]) rfl
      · have e : frw 0 P.r = 57 + (P.r - 1) := by
          unfold frw
          rw [if_neg (by omega)]
        have n57 : 57 + (P.r - 1) ∉ wS 0 := by
          have : P.r = 1 := by omega
          rw [this]
          decide
        rw [e, g0 _ n57]
        have := x4 (P.r - 1) (by omega) t h q1 q2 q3
        rw [show P.r - 1 + 1 = P.r by omega] at this
        exact this
      · have b := zN_in (pol := none) (ra := W.ra) hr ha (fun t h _ _ => (hW.2.2.2.2.2.2.2.2.1 t h).1) (fun de q => by simp at q) P.r t h q1 q2
        omega
      · have hob : ∀ c, c ∉ wS j → c ∉ bS o := by
          rw [ho]
          intro c hc z
          apply hc
          have : j = 0 ∨ j = 1 := by omega
          rcases this with rfl | rfl
          · exact List.mem_cons.mpr (Or.inr (List.mem_append.mpr (Or.inl (List.mem_cons.mpr (Or.inr z)))))
          · exact List.mem_cons.mpr (Or.inr (List.mem_cons.mpr (Or.inr z)))
        have n69 : 69 ∉ bS o ∧ o ∉ bS o ∧ 69 ≠ o := by
          rw [ho]
          have : j = 0 ∨ j = 1 := by omega
          rcases this with rfl | rfl <;> decide
        have e69 : τ.1 69 = σ.1 69 := by
          rw [g1 69 n69.1]
          funext k
          exact f3 k
        have h2 : τ.2 = σ.2 := g2.trans f2
        have fl : FLw j σ τ := ⟨fun c hc => (g1 c (hob c hc)).trans (f1 c hc), fun c _ => by rw [h2], fun k _ => by rw [e69]⟩
        refine hQ' τ g1 g2 ⟨by rw [← ho, g1 o n69.2.1]; exact f5, by rw [← ho, g1 o n69.2.1]; exact f6, fun t h q1 q2 q3 q4 => by rw [← ho]; exact g3 t h q1 q2 q3 q4⟩ (WX.fr ⟨x1, x2, x3, x4, x5, x6, x7⟩ hvW.2.2.2.2 hj fl) ?_
        obtain ⟨b1, b2, b3, b4, b5, b6⟩ := hAG
        unfold AG
        rw [e69, h2]
        exact ⟨b1, b2, b3, b4, b5, b6⟩
    have ko' : σ.1 (lo j) 6 = jI (P.f 3 + 1) := ko
    have sub1 : jI (P.f 3 + 1) - 1 = jI (P.f 3) := by
      rw [show (1 : Int32) = jI 1 from rfl, jsub]
      congr 1
      omega
    have h01 : j = 0 ∨ j = 1 := by omega
    rcases h01 with rfl | rfl
    · refine vX10_settleNotice [] 90 ?_
      refine breq kd 1 (fun q => by omega) (fun _ => ?_) (hx := e5) (hy := rfl)
      refine brlt 1 3 (fun _ => ?_) (fun q => by omega) (hx := by rw [e1]; rfl) (hy := rfl)
      refine ldN 3 1 (show refA 70 1 = 72 from rfl) ?_ (hi := by rw [e1]; rfl)
      refine k_nodeOf P.t P.h ?_ (by rw [e2, hv.1]) (by rw [e3, hv.2.1])
      refine k_couponOfNode P.t P.h x1 x3 (by omega) hv.2.2.1 ?_ rfl
      rw [← kc]
      refine ldN 3 0 (show refA 70 0 = 31 from rfl) ?_ (hi := e1)
      refine next 72 (uI (uI σ 72 5 (jI (P.f 2))) 72 6 ((uI σ 72 5 (jI (P.f 2))).1 31 6 - 1)) rfl (Or.inr (Or.inr (Or.inr (Or.inl rfl)))) (fun c hc => ?_) rfl (fun k => by rw [uI_n (by decide), uI_n (by decide)]) (by rw [uI_ne (Or.inr (by decide)), uI_at]) ?_ _ (fun τ g1 g2 gT gX gA => ?_)
      · have n72 : c ≠ 72 := fun z => hc (by rw [z]; decide)
        rw [uI_n n72, uI_n n72]
      · rw [uI_at, uI_n (by decide)]
        rw [show σ.1 31 6 = jI (P.f 3 + 1) from ko']
        exact sub1
      · refine k_renewalAt P.t gX.1 gX.2.1 (by omega) ?_ (by rw [e2, hv.1])
        refine hA (by omega) (d' + 6) τ A P _ _ _ _ _ (by omega) gX hP h4 hn k11 (fun _ => ⟨k6, gT⟩) gA (by rw [e1]; rfl) e2 e3 (by rw [e4, k7, jadd]) (fun ρ f1 f2 => ?_)
        refine hq ρ ?_ f2
        have fl : FLw 0 σ τ := ⟨fun c hc => ?_, fun c _ => by rw [g2]; rfl, fun k _ => by rw [g1 69 (by decide), uI_n (by decide), uI_n (by decide)]⟩
        · exact fl.tr f1.up
        · have n72 : c ∉ bS 72 ∧ c ≠ 72 := by
            refine ⟨fun z => hc ?_, fun z => hc (by rw [z]; decide)⟩
            exact List.mem_cons.mpr (Or.inr (List.mem_append.mpr (Or.inl (List.mem_cons.mpr (Or.inr z)))))
          rw [g1 c n72.1, uI_n n72.2, uI_n n72.2]
    · refine vX10_settleNotice [] 90 ?_
      refine breq kd 1 (fun q => by omega) (fun _ => ?_) (hx := e5) (hy := rfl)
      refine brlt 2 3 (fun _ => ?_) (fun q => by omega) (hx := by rw [e1]; rfl) (hy := rfl)
      refine ldN 3 2 (show refA 70 2 = 84 from rfl) ?_ (hi := by rw [e1]; rfl)
      refine k_nodeOf P.t P.h ?_ (by rw [e2, hv.1]) (by rw [e3, hv.2.1])
      refine k_couponOfNode P.t P.h x1 x3 (by omega) hv.2.2.1 ?_ rfl
      rw [← kc]
      refine ldN 3 1 (show refA 70 1 = 72 from rfl) ?_ (hi := e1)
      refine next 84 (uI (uI σ 84 5 (jI (P.f 2))) 84 6 ((uI σ 84 5 (jI (P.f 2))).1 72 6 - 1)) rfl (Or.inr (Or.inr (Or.inr (Or.inr rfl)))) (fun c hc => ?_) rfl (fun k => by rw [uI_n (by decide), uI_n (by decide)]) (by rw [uI_ne (Or.inr (by decide)), uI_at]) ?_ _ (fun τ g1 g2 gT gX gA => ?_)
      · have n84 : c ≠ 84 := fun z => hc (by rw [z]; decide)
        rw [uI_n n84, uI_n n84]
      · rw [uI_at, uI_n (by decide)]
        rw [show σ.1 72 6 = jI (P.f 3 + 1) from ko']
        exact sub1
      · refine k_renewalAt P.t gX.1 gX.2.1 (by omega) ?_ (by rw [e2, hv.1])
        refine hA (by omega) (d' + 6) τ A P _ _ _ _ _ (by omega) gX hP h4 hn k11 (fun _ => ⟨k6, gT⟩) gA (by rw [e1]; rfl) e2 e3 (by rw [e4, k7, jadd]) (fun ρ f1 f2 => ?_)
        refine hq ρ ?_ f2
        have fl : FLw 1 σ τ := ⟨fun c hc => ?_, fun c _ => by rw [g2]; rfl, fun k _ => by rw [g1 69 (by decide), uI_n (by decide), uI_n (by decide)]⟩
        · exact fl.tr f1.up
        · have n84 : c ∉ bS 84 ∧ c ≠ 84 := by
            refine ⟨fun z => hc ?_, fun z => hc (by rw [z]; decide)⟩
            exact List.mem_cons.mpr (Or.inr (List.mem_cons.mpr (Or.inr z)))
          rw [g1 c n84.1, uI_n n84.2, uI_n n84.2]
end KWk
