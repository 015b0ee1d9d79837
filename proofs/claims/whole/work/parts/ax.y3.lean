-- what changes the whole state: the class
section KXc
variable {l : Launch} {G : GT} {d N : Nat} {σ τ : Mm} {Q : Po} {X : Xw} {ru : Nat → Int}
theorem yS_lt : ∀ c ∈ yS, c < 98 := by decide
theorem KS.set {s : Nat → Int32} {H : Hs} (h : KS σ X) (ho : X.o = some ru) (e : ∀ c, c ∉ yS → τ.1 c = σ.1 c) (e7 : ∀ k, 7 ≤ k → τ.1 64 k = σ.1 64 k) (hs : ∀ j, j < 4 → τ.1 4 j = s j) (hKr : Kr τ 2 H.W) (hC : CI τ ru) (hH : HC τ H) : KS τ (xH X s H) := by
  obtain ⟨h1, h2, h3, h4, h5, h6⟩ := h
  refine ⟨h1.fr (e 6 (by decide)) (e 7 (by decide)), h2.fr (e 12 (by decide)) (e 14 (by decide)) (e 13 (by decide)), hs, hH, ?_, ?_⟩
  · show IK τ X.im
    unfold IK at h5 ⊢
    rw [e7 7 (by omega), e7 8 (by omega), e 67 (by decide), e 68 (by decide)]
    exact h5
  · show KL τ X.o H
    rw [ho]
    exact ⟨hKr, hC⟩
theorem KF.y (e : ∀ c, c ∉ yS → τ.1 c = σ.1 c) : KF σ τ := fun c hc => e c (fun z => by have := yS_lt c z; omega)
theorem KS.hk (h : KS σ X) (hX : XI N X) (ho : X.o = some ru) : HK σ ru X.H := ⟨(h.so ho).1, (h.so ho).2, h.2.2.2.1, (hX.so ho).2.1⟩
theorem kx_act {x y z u : Int32} (k a b c : Int) (hN : N < 900000) (hK : KS σ X) (hX : XI N X) (hk : 0 ≤ k ∧ k ≤ 9) (ra : R31 a) (rb : R31 b) (rc : R31 c) (hq : ∀ τ, KF σ τ → KS τ (xAct X k a b c).2 → Q (some (.int (jI (xAct X k a b c).1))) τ)
    (ex : x = jI k := by first | rfl | assumption | (simp only [jlit, jneg, jadd, jsub, jmul]; done) | (simp only [jlit, jneg, jadd, jsub, jmul]; congr 1 <;> omega) | (congr 1 <;> omega)) (ey : y = jI a := by first | rfl | assumption | (simp only [jlit, jneg, jadd, jsub, jmul]; done) | (simp only [jlit, jneg, jadd, jsub, jmul]; congr 1 <;> omega) | (congr 1 <;> omega)) (ez : z = jI b := by first | rfl | assumption | (simp only [jlit, jneg, jadd, jsub, jmul]; done) | (simp only [jlit, jneg, jadd, jsub, jmul]; congr 1 <;> omega) | (congr 1 <;> omega)) (eu : u = jI c := by first | rfl | assumption | (simp only [jlit, jneg, jadd, jsub, jmul]; done) | (simp only [jlit, jneg, jadd, jsub, jmul]; congr 1 <;> omega) | (congr 1 <;> omega)) : MW l G (d + 52) mX11_act [.ref 0, .int x, .int y, .int z, .int u, .int 1] σ Q := by
  cases ho : X.o with
  | none =>
    have e : xAct X k a b c = (-1, xH X (sUp X.s 1 0) X.H) := by unfold xAct; rw [ho]
    rw [e] at hq
    refine k_act0 1 (Or.inr rfl) (hK.no ho) hK.2.2.2.1 (fun τ g1 g2 g3 g4 => ?_)
    obtain ⟨h1, h2, h3, h4, h5, h6⟩ := hK
    refine hq τ (fun c hc => g1 c (by omega) (by omega)) ⟨h1.fr (g1 6 (by decide) (by decide)) (g1 7 (by decide) (by decide)), h2.fr (g1 12 (by decide) (by decide)) (g1 14 (by decide) (by decide)) (g1 13 (by decide) (by decide)), fun j hj => ?_, g3, h5.fr (g1 64 (by decide) (by decide)) (g1 67 (by decide) (by decide)) (g1 68 (by decide) (by decide)), ?_⟩
    · rw [g4 j]
      show sUp (σ.1 4) 1 0 j = sUp X.s 1 0 j
      unfold sUp
      rw [h3 j hj]
    · show KL τ X.o X.H
      rw [ho] at h6 ⊢
      show τ.1 1 1 = 0
      rw [g1 1 (by decide) (by decide)]
      exact h6
  | some ru =>
    have e : xAct X k a b c = (kAns ru X.H.W k a b c, xH X (sUp X.s 1 (wOut ru X.H.W k a b c).1) (hAct ru X.H k a b c)) := by unfold xAct; rw [ho]
    rw [e] at hq
    have hs := hX.so ho
    refine k_act k a b c 1 (Or.inr rfl) (hK.so ho).1 (hK.so ho).2 hs.2.1 hK.2.2.2.1 (by omega) hk ra rb rc (fun τ g1 g2 g3 g4 g5 g6 g7 => ?_) ex ey ez eu
    have g1' : ∀ c, c ∉ yS → τ.1 c = σ.1 c := fun c hc => g1 c (fun z => hc (List.mem_cons_of_mem _ z))
    refine hq τ (KF.y g1') (hK.set ho g1' g3 (fun j hj => ?_) g4 g5 g6)
    rw [g7 j]
    show sUp (σ.1 4) 1 _ j = sUp X.s 1 _ j
    unfold sUp
    rw [hK.2.2.1 j hj]
theorem kx_years {y : Int32} {x : Int64} (hN : N < 900000) (hK : KS σ X) (hX : XI N X) (hq : ∀ τ, KF σ τ → KS τ (xYears X y.toInt x).2 → Q (some (.int (jI (xYears X y.toInt x).1))) τ) : MW l G (d + 53) mX11_years [.ref 0, .int y, .long x] σ Q := by
  cases ho : X.o with
  | none =>
    have e : xYears X y.toInt x = (-1, X) := by unfold xYears; rw [ho]
    rw [e] at hq
    exact k0_years (hK.no ho) (hq σ KF.rf hK)
  | some ru =>
    have hs := hX.so ho
    refine k_years y.toInt (hK.hk hX ho) (by omega) (jI_R y) (fun q => ?_) (fun q τ g1 g2 g3 g4 g5 => ?_) (jI_of y).symm
    · have e : xYears X y.toInt x = (-1, X) := by unfold xYears; rw [ho]; exact if_neg q
      rw [e] at hq
      exact hq σ KF.rf hK
    · have e : xYears X y.toInt x = ((hYears ru y.toInt.toNat (X.H, x)).W.f 7, xH X X.s (hYears ru y.toInt.toNat (X.H, x))) := by unfold xYears; rw [ho]; exact if_pos q
      rw [e] at hq
      exact hq τ (KF.y g1) (hK.set ho g1 g3 (fun j hj => by rw [g4 j hj]; exact hK.2.2.1 j hj) g5.1 g5.2.1 g5.2.2.1)
theorem kx_perform {x : Int32} (hN : N < 900000) (hK : KS σ X) (hX : XI N X) (hq : ∀ τ, KF σ τ → KS τ (xPer X x.toInt).2 → Q (some (.int (jI (xPer X x.toInt).1))) τ) : MW l G (d + 53) mX11_perform [.ref 0, .int x] σ Q := by
  cases ho : X.o with
  | none =>
    have e : xPer X x.toInt = (-1, X) := by unfold xPer; rw [ho]
    rw [e] at hq
    exact k0_perform x.toInt hK.2.1 (jI_R x) (hK.no ho) (hq σ KF.rf hK) (jI_of x).symm
  | some ru =>
    have hs := hX.so ho
    refine k_perform x.toInt (hK.hk hX ho) (by omega) hK.2.1 (jI_R x) (fun q => ?_) (fun q τ g1 g2 g3 g4 g5 => ?_) (jI_of x).symm
    · have e : xPer X x.toInt = (-1, X) := by unfold xPer; rw [ho]; exact if_neg q
      rw [e] at hq
      exact hq σ KF.rf hK
    · have e : xPer X x.toInt = (((perS ru X.S x.toInt.toNat (X.S.sz x.toInt.toNat) 0 X.H).1 : Int), xH X X.s (perS ru X.S x.toInt.toNat (X.S.sz x.toInt.toNat) 0 X.H).2) := by unfold xPer; rw [ho]; exact if_pos q
      rw [e] at hq
      exact hq τ (KF.y g1) (hK.set ho g1 g3 (fun j hj => by rw [g4 j hj]; exact hK.2.2.1 j hj) g5.1 g5.2.1 g5.2.2.1)
theorem kx_undo (hN : N < 900000) (hK : KS σ X) (hX : XI N X) (hq : ∀ τ, KF σ τ → KS τ (xUndo X).2 → Q (some (.int (jI (xUndo X).1))) τ) : MW l G (d + 53) mX11_undo [.ref 0] σ Q := by
  have hE : X.H.E < 1000000 := by
    cases ho : X.o with
    | none => have := (hX.no ho).2.1; omega
    | some ru => have := (hX.so ho).2.2.2.1; omega
  refine k_undo hK.2.2.2.1 hE (fun q => ?_) (fun q τ g1 g2 g3 g4 g5 => ?_)
  · have e : xUndo X = (-1, X) := by unfold xUndo; exact if_pos q
    rw [e] at hq
    exact hq σ KF.rf hK
  · have e : xUndo X = (((X.H.A - 1 : Nat) : Int), xH X X.s (hUndo X.H)) := by unfold xUndo; exact if_neg q
    rw [e] at hq
    cases ho : X.o with
    | none => exact absurd (hX.no ho).1 q
    | some ru =>
      refine hq τ (fun c hc => g1 c (by omega) (by omega)) (hK.set ho (fun c hc => g1 c (fun z => hc (by rw [z]; decide)) (fun z => hc (by rw [z]; decide))) g3 (fun j hj => by rw [g1 4 (by decide) (by decide)]; exact hK.2.2.1 j hj) g4 ((hK.so ho).2.frS (g1 1 (by decide) (by decide)) (fun c hc => g1 c ?_ ?_)) g5)
      · rintro rfl; exact absurd hc (by decide)
      · rintro rfl; exact absurd hc (by decide)
theorem kx_image (hK : KS σ X) (hX : XI N X) (hq : ∀ τ, KF σ τ → KS τ (xImg X).2 → Q (some (.int (jI (xImg X).1))) τ) : MW l G (d + 53) mX11_image [.ref 0] σ Q := by
  cases ho : X.o with
  | none =>
    have e : xImg X = (-1, X) := by unfold xImg; rw [ho]
    rw [e] at hq
    exact k_image0 (hK.no ho) (hq σ KF.rf hK)
  | some ru =>
    have e : xImg X = (X.H.W.f 7, (X.T, X.S, X.s, X.o, X.H, some (X.H.W, X.H.E, X.H.L))) := by unfold xImg; rw [ho]; rfl
    rw [e] at hq
    refine k_image (hK.hk hX ho) (fun τ g1 g2 g3 g4 => ?_)
    obtain ⟨h1, h2, h3, h4, h5, h6⟩ := hK
    refine hq τ (fun c hc => g1 c (by omega) (by omega) (by omega)) ⟨h1.fr (g1 6 (by decide) (by decide) (by decide)) (g1 7 (by decide) (by decide) (by decide)), h2.fr (g1 12 (by decide) (by decide) (by decide)) (g1 14 (by decide) (by decide) (by decide)) (g1 13 (by decide) (by decide) (by decide)), fun j hj => by rw [g1 4 (by decide) (by decide) (by decide)]; exact h3 j hj, ?_, g4, ?_⟩
    · obtain ⟨n, n1, n2, n3, n4, n5, n6, n7, n8⟩ := h4
      exact ⟨n, n1, by rw [g3 5 (by omega)]; exact n2, by rw [g3 0 (by omega)]; exact n3, by rw [g3 6 (by omega)]; exact n4, n5, n6, fun j hj => by rw [g1 65 (by decide) (by decide) (by decide)]; exact n7 j hj, fun p q q1 q2 q3 => by rw [g1 66 (by decide) (by decide) (by decide)]; exact n8 p q q1 q2 q3⟩
    · show KL τ X.o X.H
      rw [ho] at h6 ⊢
      refine ⟨h6.1.fr (g1 2 (by decide) (by decide) (by decide)), h6.2.frS (g1 1 (by decide) (by decide) (by decide)) (fun c hc => g1 c ?_ ?_ ?_)⟩
      · rintro rfl; exact absurd hc (by decide)
      · rintro rfl; exact absurd hc (by decide)
      · rintro rfl; exact absurd hc (by decide)
theorem kx_back (hK : KS σ X) (hX : XI N X) (hq : ∀ τ, KF σ τ → KS τ (xBack X).2 → Q (some (.int (jI (xBack X).1))) τ) : MW l G (d + 53) mX11_back [.ref 0] σ Q := by
  have h5 := hK.2.2.2.2.1
  cases hi : X.im with
  | none =>
    have e : xBack X = (-1, X) := by unfold xBack; rw [hi]
    rw [e] at hq
    rw [hi] at h5
    exact k_back0 h5 (hq σ KF.rf hK)
  | some m =>
    have e : xBack X = (m.1.f 7, xH X X.s (hBack X.H m)) := by unfold xBack; rw [hi]
    rw [e] at hq
    rw [hi] at h5
    cases ho : X.o with
    | none => have := (hX.no ho).2.2; rw [hi] at this; cases this
    | some ru =>
      refine k_back m hK.2.2.2.1 h5 (fun τ g1 g2 g3 g4 g5 => ?_)
      refine hq τ (fun c hc => g1 c (by omega) (by omega) (by omega)) (hK.set ho (fun c hc => g1 c (fun z => hc (by rw [z]; decide)) (fun z => hc (by rw [z]; decide)) (fun z => hc (by rw [z]; decide))) g3 (fun j hj => by rw [g1 4 (by decide) (by decide) (by decide)]; exact hK.2.2.1 j hj) g4 ((hK.so ho).2.frS (g1 1 (by decide) (by decide) (by decide)) (fun c hc => g1 c ?_ ?_ ?_)) g5)
      · rintro rfl; exact absurd hc (by decide)
      · rintro rfl; exact absurd hc (by decide)
      · rintro rfl; exact absurd hc (by decide)
theorem KS.tape {T : Tp} (h : KS σ X) (e : ∀ c, c ≠ 6 → c ≠ 7 → τ.1 c = σ.1 c) (hT : TK τ T) : KS τ (T, X.2) := by
  obtain ⟨h1, h2, h3, h4, h5, h6⟩ := h
  refine ⟨hT, h2.fr (e 12 (by decide) (by decide)) (e 14 (by decide) (by decide)) (e 13 (by decide) (by decide)), fun j hj => by rw [e 4 (by decide) (by decide)]; exact h3 j hj, h4.fr (e 64 (by decide) (by decide)) (e 65 (by decide) (by decide)) (e 66 (by decide) (by decide)), h5.fr (e 64 (by decide) (by decide)) (e 67 (by decide) (by decide)) (e 68 (by decide) (by decide)), h6.fr (fun c hc hn => e c ?_ ?_)⟩
  · rintro rfl; exact hn (by decide)
  · rintro rfl; exact hn (by decide)
theorem kx_feed (a b c e f : Int32) (hK : KS σ X) (hq : ∀ τ, KF σ τ → KS τ (xFeed X a b c e f).2 → Q (some (.int (jI (xFeed X a b c e f).1))) τ) : MW l G (d + 53) mX11_feed [.ref 0, .int a, .int b, .int c, .int e, .int f] σ Q := by
  refine k_feed a b c e f hK.1 (fun q => ?_) (fun q τ g1 g2 g3 => ?_)
  · have e' : xFeed X a b c e f = (-1, X) := by unfold xFeed; exact if_neg (by omega)
    rw [e'] at hq
    exact hq σ KF.rf hK
  · have e' : xFeed X a b c e f = (((tFeed X.T a b c e f).n : Int), (tFeed X.T a b c e f, X.2)) := by unfold xFeed; exact if_pos q
    rw [e'] at hq
    exact hq τ (fun c hc => g1 c (by omega) (by omega)) (hK.tape g1 g3)
theorem kx_end {x : Int32} (hK : KS σ X) (hq : ∀ τ, KF σ τ → KS τ (xEnd X x.toInt).2 → Q (some (.int (jI (xEnd X x.toInt).1))) τ) : MW l G (d + 53) mX11_end [.ref 0, .int x] σ Q := by
  refine k_end x.toInt (jI_R x) hK.1 (fun q => ?_) (fun q τ g1 g2 g3 => ?_) (jI_of x).symm
  · have e' : xEnd X x.toInt = (0, X) := by unfold xEnd; exact if_neg q
    rw [e'] at hq
    exact hq σ KF.rf hK
  · have e' : xEnd X x.toInt = (1, ((x.toInt.toNat, X.T.b), X.2)) := by unfold xEnd; exact if_pos q
    rw [e'] at hq
    exact hq τ (fun c hc => g1 c (by omega)) (hK.tape (fun c h6 _ => g1 c h6) g3)
theorem kx_fault {x : Int32} (hG : GX G) (hK : KS σ X) (hq : ∀ τ, KF σ τ → KS τ X → Q (some (.int (jI (aFault X.T x.toInt)))) τ) : MW l G (d + 53) mX11_fault [.ref 0, .int x] σ Q := by
  refine k_fault hG x.toInt (jI_R x) hK.1 (fun τ g1 g2 => ?_) (jI_of x).symm
  refine hq τ (fun c hc => g1 c (by omega) (by omega) (by omega) (by omega)) (hK.fr (fun c hc hn => ?_))
  simp only [List.mem_cons, List.not_mem_nil, or_false, not_or] at hn
  exact g1 c hn.1 hn.2.1 hn.2.2.1 hn.2.2.2
theorem kx_text {x : Int32} (hG : GX G) (hK : KS σ X) (hX : XI N X) (hq : ∀ τ, KF σ τ → KS τ (xText X x.toInt).2 → Q (some (.int (jI (xText X x.toInt).1))) τ) : MW l G (d + 53) mX11_text [.ref 0, .int x] σ Q := k_text hG x.toInt (jI_R x) hK hX (fun τ g1 _ g3 => hq τ g1 g3) (jI_of x).symm
def xStat (X : Xw) (i : Int) : Int32 := if 0 ≤ i ∧ i ≤ 3 then X.s i.toNat else -1
theorem kx_status {x : Int32} (hK : KS σ X) (hq : ∀ τ, KF σ τ → KS τ X → Q (some (.int (xStat X x.toInt))) τ) : MW l G (d + 53) mX11_status [.ref 0, .int x] σ Q := by
  refine k_status x.toInt (jI_R x) ?_ (jI_of x).symm
  have e : (if 0 ≤ x.toInt ∧ x.toInt ≤ 3 then σ.1 4 x.toInt.toNat else -1) = xStat X x.toInt := by
    unfold xStat
    by_cases q : 0 ≤ x.toInt ∧ x.toInt ≤ 3
    · rw [if_pos q, if_pos q, hK.2.2.1 _ (by omega)]
    · rw [if_neg q, if_neg q]
  rw [e]
  exact hq σ KF.rf hK
theorem XI.E (hN : N < 900000) (hX : XI N X) : X.H.E < 1000000 := by
  cases ho : X.o with
  | none => have := (hX.no ho).2.1; omega
  | some ru => have := (hX.so ho).2.2.2.1; omega
theorem kx_log {x y : Int32} (hN : N < 900000) (hK : KS σ X) (hX : XI N X) (hq : ∀ τ, KF σ τ → KS τ X → Q (some (.int (hLog X.H x.toInt y.toInt))) τ) : MW l G (d + 53) mX11_log [.ref 0, .int x, .int y] σ Q := k_log x.toInt y.toInt hK.2.2.2.1 (hX.E hN) (jI_R x) (jI_R y) (hq σ KF.rf hK) (jI_of x).symm (jI_of y).symm
theorem kx_step {x y z : Int32} (hK : KS σ X) (hq : ∀ τ, KF σ τ → KS τ X → Q (some (.int (jI (aStep X.S x.toInt y.toInt z.toInt)))) τ) : MW l G (d + 53) mX11_step [.ref 0, .int x, .int y, .int z] σ Q := k_step x.toInt y.toInt z.toInt hK.2.1 (jI_R x) (jI_R y) (jI_R z) (hq σ KF.rf hK) (jI_of x).symm (jI_of y).symm (jI_of z).symm
def xRun (X : Xw) (s w : Int) : Int := match X.o with
  | none => -1000000
  | some ru => aRun ru X.H.W X.S s w
theorem kx_run {x y : Int32} (hK : KS σ X) (hX : XI N X) (hq : ∀ τ, KF σ τ → KS τ X → Q (some (.int (jI (xRun X x.toInt y.toInt)))) τ) : MW l G (d + 53) mX11_run [.ref 0, .int x, .int y] σ Q := by
  cases ho : X.o with
  | none =>
    have e : xRun X x.toInt y.toInt = -1000000 := by unfold xRun; rw [ho]
    rw [e] at hq
    exact k0_run x.toInt hK.2.1 (jI_R x) (hK.no ho) (hq σ KF.rf hK) (jI_of x).symm
  | some ru =>
    have e : xRun X x.toInt y.toInt = aRun ru X.H.W X.S x.toInt y.toInt := by unfold xRun; rw [ho]
    rw [e] at hq
    refine k_run x.toInt y.toInt (hK.kq hX ho) hK.2.1 (jI_R x) (jI_R y) (fun τ g1 g2 g3 g4 => ?_) (jI_of x).symm (jI_of y).symm
    have lt : ∀ c ∈ uS, c < 98 := by decide
    refine hq τ (fun c hc => g1 c (fun z => by have := lt c z; omega)) ?_
    obtain ⟨h1, h2, h3, h4, h5, h6⟩ := hK
    refine ⟨h1.fr (g1 6 (by decide)) (g1 7 (by decide)), h2.fr (g1 12 (by decide)) (g1 14 (by decide)) (g1 13 (by decide)), fun j hj => by rw [g1 4 (by decide)]; exact h3 j hj, h4.fr (g1 64 (by decide)) (g1 65 (by decide)) (g1 66 (by decide)), h5.fr (g1 64 (by decide)) (g1 67 (by decide)) (g1 68 (by decide)), ?_⟩
    rw [ho]
    exact ⟨g4, g3⟩
def xYr (X : Xw) : Int := match X.o with
  | none => 0
  | some ru => ru 1
def xCnt (X : Xw) (i : Int) : Int32 := if i = 0 then jI (xYr X) else if i = 1 then jI (X.S.c : Int) else if i = 2 then jI (X.T.n : Int) else if i = 3 then jI ((min 60 X.H.E : Nat) : Int) else if i = 4 then jI (X.H.A : Int) else jI (-1000000)
theorem kx_count {x : Int32} (hN : N < 900000) (hK : KS σ X) (hX : XI N X) (hq : ∀ τ, KF σ τ → KS τ X → Q (some (.int (xCnt X x.toInt))) τ) : MW l G (d + 53) mX11_count [.ref 0, .int x] σ Q := by
  refine k_count x.toInt (jI (X.S.c : Int)) (jI (X.T.n : Int)) (xYr X) hK.2.2.2.1 (hX.E hN) ?_ hK.2.1.2.1 hK.1.2.1 (jI_R x) (hq σ KF.rf hK) (jI_of x).symm
  unfold xYr
  cases ho : X.o with
  | none => exact hK.no ho
  | some ru => exact (hK.so ho).2.1.2 1 (by omega)
end KXc
