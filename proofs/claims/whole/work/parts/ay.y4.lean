-- what changes the whole state: the reference
section MXc
variable {l : Launch} {G : GT} {d N : Nat} {σ τ : Mm} {Q : Po} {X : Xw} {ru : Nat → Int}
theorem MS.set {s : Nat → Int32} {H : Hs} (h : MS σ X) (ho : X.o = some ru) (e1 : ∀ c, c ∈ [99, 101, 106, 107, 110] → τ.1 c = σ.1 c) (e2 : ∀ k, k ∈ [2, 16, 17, 26, 27] → τ.1 98 k = σ.1 98 k) (hs : ∀ j, j < 4 → τ.1 105 j = s j) (hH : HM τ ru H) : MS τ (xH X s H) := by
  have hso := h.so ho
  obtain ⟨h1, h2, h3, h4, h5⟩ := h
  refine ⟨h1.fr (e2 2 (by decide)) (e1 99 (by decide)), h2.fr (e2 16 (by decide)) (e1 107 (by decide)) (e1 106 (by decide)), hs, by rw [e2 27 (by decide)]; exact h4, ?_⟩
  show ML τ X.o H X.im
  rw [ho]
  refine ⟨by rw [e2 17 (by decide)]; exact hso.1, hso.2.1.fr (e1 101 (by decide)), hH, ?_⟩
  have := hso.2.2.2
  unfold IM at this ⊢
  rw [e2 26 (by decide), e1 110 (by decide)]
  exact this
theorem MS.fa {H : Hs} (h : MS σ X) (ho : X.o = some ru) (F : FA σ τ) (hH : HM τ ru H) : MS τ (xH X X.s H) := h.set ho (fun c hc => F.1 c (fun z => by
    have : ∀ c ∈ [98, 108, 109, 111, 112, 113, 114], c ∉ [99, 101, 106, 107, 110] := by decide
    exact this c z hc)) (fun k hk => F.2.2 k (fun z => by
    have : ∀ c ∈ [0, 24, 25, 33, 34], c ∉ [2, 16, 17, 26, 27] := by decide
    exact this k z hk)) (fun j hj => by rw [F.1 105 (by decide)]; exact h.2.2.1 j hj) hH
theorem FA.lf (F : FA σ τ) : LF σ τ := fun c hc => F.1 c (by simp only [List.mem_cons, List.not_mem_nil, or_false, not_or]; omega)
theorem cx_act {x y z u : Int32} (k a b c : Int) (hM : MS σ X) (hX : XI N X) (hk : 0 ≤ k ∧ k ≤ 9) (ra : R31 a) (rb : R31 b) (rc : R31 c) (hq : ∀ τ, LF σ τ → MS τ (xAct X k a b c).2 → Q (some (.int (jI (xAct X k a b c).1))) τ)
    (ex : x = jI k := by first | rfl | assumption | (simp only [jlit, jneg, jadd, jsub, jmul]; done) | (simp only [jlit, jneg, jadd, jsub, jmul]; congr 1 <;> omega) | (congr 1 <;> omega)) (ey : y = jI a := by first | rfl | assumption | (simp only [jlit, jneg, jadd, jsub, jmul]; done) | (simp only [jlit, jneg, jadd, jsub, jmul]; congr 1 <;> omega) | (congr 1 <;> omega)) (ez : z = jI b := by first | rfl | assumption | (simp only [jlit, jneg, jadd, jsub, jmul]; done) | (simp only [jlit, jneg, jadd, jsub, jmul]; congr 1 <;> omega) | (congr 1 <;> omega)) (eu : u = jI c := by first | rfl | assumption | (simp only [jlit, jneg, jadd, jsub, jmul]; done) | (simp only [jlit, jneg, jadd, jsub, jmul]; congr 1 <;> omega) | (congr 1 <;> omega)) : MW l G (d + 52) mX12_act [.ref 98, .int x, .int y, .int z, .int u] σ Q := by
  cases ho : X.o with
  | none =>
    have e : xAct X k a b c = (-1, xH X (sUp X.s 1 0) X.H) := by unfold xAct; rw [ho]
    rw [e] at hq
    refine c_act0 (hM.no ho).1 (fun τ g1 g2 g3 g4 g5 => ?_)
    obtain ⟨h1, h2, h3, h4, h5⟩ := hM
    refine hq τ (fun c hc => g1 c (by simp only [List.mem_cons, List.not_mem_nil, or_false, not_or]; omega)) ⟨h1.fr (g3 2 (by decide)) (g1 99 (by decide)), h2.fr (g3 16 (by decide)) (g1 107 (by decide)) (g1 106 (by decide)), fun j hj => ?_, g4, h5.fr (g1 101 (by decide)) (g1 108 (by decide)) (g1 110 (by decide)) (g1 111 (by decide)) (fun k hk => g3 k ?_)⟩
    · rw [g5 j]
      show sUp (σ.1 105) 1 0 j = sUp X.s 1 0 j
      unfold sUp
      rw [h3 j hj]
    · simp only [List.mem_cons, List.not_mem_nil, or_false, not_or] at hk ⊢
      omega
  | some ru =>
    have e : xAct X k a b c = (kAns ru X.H.W k a b c, xH X (sUp X.s 1 (wOut ru X.H.W k a b c).1) (hAct ru X.H k a b c)) := by unfold xAct; rw [ho]
    rw [e] at hq
    have hs := hX.so ho
    have hm := hM.so ho
    refine c_act k a b c hm.1 hm.2.1 hm.2.2.1 hM.2.2.2.1 hs.2.1 hk ra rb rc (fun τ g1 g2 g3 g4 g5 => ?_) ex ey ez eu
    refine hq τ (fun c hc => g1 c (by simp only [List.mem_cons, List.not_mem_nil, or_false, not_or]; omega)) (hM.set ho (fun c hc => g1 c (fun z => ?_)) (fun k hk => g3 k (fun z => ?_)) (fun j hj => ?_) g4)
    · have : ∀ c ∈ [98, 105, 108, 109, 111, 112, 113, 114], c ∉ [99, 101, 106, 107, 110] := by decide
      exact this c z hc
    · have : ∀ c ∈ [0, 24, 25, 33, 34], c ∉ [2, 16, 17, 26, 27] := by decide
      exact this k z hk
    · rw [g5 j]
      show sUp (σ.1 105) 1 _ j = sUp X.s 1 _ j
      unfold sUp
      rw [hM.2.2.1 j hj]
theorem cx_years {y : Int32} {x : Int64} (hM : MS σ X) (hX : XI N X) (hq : ∀ τ, LF σ τ → MS τ (xYears X y.toInt x).2 → Q (some (.int (jI (xYears X y.toInt x).1))) τ) : MW l G (d + 53) mX12_years [.ref 98, .int y, .long x] σ Q := by
  cases ho : X.o with
  | none =>
    have e : xYears X y.toInt x = (-1, X) := by unfold xYears; rw [ho]
    rw [e] at hq
    exact c0_years (hM.no ho).1 (hq _ LF.th hM.th)
  | some ru =>
    have hs := hX.so ho
    have hm := hM.so ho
    refine c_years y.toInt hm.1 hm.2.1 hm.2.2.1 hM.2.2.2.1 hs.2.1 (jI_R y) (fun q => ?_) (fun q τ g1 g2 => ?_) (jI_of y).symm
    · have e : xYears X y.toInt x = (-1, X) := by unfold xYears; rw [ho]; exact if_neg q
      rw [e] at hq
      exact hq _ LF.th hM.th
    · have e : xYears X y.toInt x = ((hYears ru y.toInt.toNat (X.H, x)).W.f 7, xH X X.s (hYears ru y.toInt.toNat (X.H, x))) := by unfold xYears; rw [ho]; exact if_pos q
      rw [e] at hq
      exact hq τ g1.lf (hM.fa ho g1 g2)
theorem cx_perform {x : Int32} (hM : MS σ X) (hX : XI N X) (hq : ∀ τ, LF σ τ → MS τ (xPer X x.toInt).2 → Q (some (.int (jI (xPer X x.toInt).1))) τ) : MW l G (d + 53) mX12_perform [.ref 98, .int x] σ Q := by
  cases ho : X.o with
  | none =>
    have e : xPer X x.toInt = (-1, X) := by unfold xPer; rw [ho]
    rw [e] at hq
    exact c0_perform x.toInt hM.2.1 (jI_R x) (hM.no ho).1 (hq _ LF.th hM.th) (jI_of x).symm
  | some ru =>
    have hs := hX.so ho
    have hm := hM.so ho
    refine c_perform x.toInt hm.1 hm.2.1 hm.2.2.1 hM.2.2.2.1 hs.2.1 hM.2.1 (jI_R x) (fun q => ?_) (fun q τ g1 g2 => ?_) (jI_of x).symm
    · have e : xPer X x.toInt = (-1, X) := by unfold xPer; rw [ho]; exact if_neg q
      rw [e] at hq
      exact hq _ LF.th hM.th
    · have e : xPer X x.toInt = (((perS ru X.S x.toInt.toNat (X.S.sz x.toInt.toNat) 0 X.H).1 : Int), xH X X.s (perS ru X.S x.toInt.toNat (X.S.sz x.toInt.toNat) 0 X.H).2) := by unfold xPer; rw [ho]; exact if_pos q
      rw [e] at hq
      exact hq τ g1.lf (hM.fa ho g1 g2)
theorem FA.bk (g1 : ∀ c, c ≠ 98 → c ≠ 108 → τ.1 c = σ.1 c) (g2 : τ.2 = σ.2) (g3 : ∀ k, k ≠ 0 → k ≠ 25 → τ.1 98 k = σ.1 98 k) : FA σ τ := ⟨fun a q => g1 a (fun z => q (by rw [z]; decide)) (fun z => q (by rw [z]; decide)), fun a _ => by rw [g2], fun k q => g3 k (fun z => q (by rw [z]; decide)) (fun z => q (by rw [z]; decide))⟩
theorem c_undo0 (h : σ.1 98 25 = 0) (hq : Q (some (.int (-1))) (uI σ 98 0 0)) : MW l G (d + 1) mX12_undo [.ref 98] σ Q := by
  have e25 : (uI σ 98 0 0).1 98 25 = jI 0 := by rw [uI_ne (Or.inr (by decide))]; exact h
  refine vX12_undo [] 60 ?_
  exact breq 0 0 (fun _ => hq) (fun q => absurd rfl q) (hx := e25) (hy := rfl)
theorem cx_undo (hM : MS σ X) (hX : XI N X) (hq : ∀ τ, LF σ τ → MS τ (xUndo X).2 → Q (some (.int (jI (xUndo X).1))) τ) : MW l G (d + 53) mX12_undo [.ref 98] σ Q := by
  cases ho : X.o with
  | none =>
    have e : xUndo X = (-1, X) := by unfold xUndo; exact if_pos (hX.no ho).1
    rw [e] at hq
    exact c_undo0 (hM.no ho).2.2.1 (hq _ LF.th hM.th)
  | some ru =>
    have hs := hX.so ho
    have hm := hM.so ho
    refine c_undo hs.1 hm.2.2.1 (fun q => ?_) (fun q τ g1 g2 g3 g4 => ?_)
    · have e : xUndo X = (-1, X) := by unfold xUndo; exact if_pos q
      rw [e] at hq
      exact hq _ LF.th hM.th
    · have e : xUndo X = (((X.H.A - 1 : Nat) : Int), xH X X.s (hUndo X.H)) := by unfold xUndo; exact if_neg q
      rw [e] at hq
      have F := FA.bk g1 g2 g3
      exact hq τ F.lf (hM.fa ho F g4)
theorem cx_image (hM : MS σ X) (hX : XI N X) (hq : ∀ τ, LF σ τ → MS τ (xImg X).2 → Q (some (.int (jI (xImg X).1))) τ) : MW l G (d + 53) mX12_image [.ref 98] σ Q := by
  cases ho : X.o with
  | none =>
    have e : xImg X = (-1, X) := by unfold xImg; rw [ho]
    rw [e] at hq
    exact c_image0 (hM.no ho).1 (hq _ LF.th hM.th)
  | some ru =>
    have e : xImg X = (X.H.W.f 7, (X.T, X.S, X.s, X.o, X.H, some (X.H.W, X.H.E, X.H.L))) := by unfold xImg; rw [ho]; rfl
    rw [e] at hq
    have hs := hX.so ho
    have hm := hM.so ho
    refine c_image hs.1 hm.1 hm.2.2.1 (fun τ g1 g2 g3 g4 => ?_)
    obtain ⟨h1, h2, h3, h4, h5⟩ := hM
    refine hq τ (fun c hc => g1 c (by omega) (by omega)) ⟨h1.fr (g3 2 (by decide) (by decide)) (g1 99 (by decide) (by decide)), h2.fr (g3 16 (by decide) (by decide)) (g1 107 (by decide) (by decide)) (g1 106 (by decide) (by decide)), fun j hj => by rw [g1 105 (by decide) (by decide)]; exact h3 j hj, by rw [g3 27 (by decide) (by decide)]; exact h4, ?_⟩
    show ML τ X.o X.H (some (X.H.W, X.H.E, X.H.L))
    rw [ho]
    obtain ⟨r1, F, r2⟩ := hm.2.2.1
    exact ⟨by rw [g3 17 (by decide) (by decide)]; exact hm.1, hm.2.1.fr (g1 101 (by decide) (by decide)), ⟨by rw [g1 108 (by decide) (by decide)]; exact r1, F, r2.fr (g3 24 (by decide) (by decide)) (g3 25 (by decide) (by decide)) (g1 111 (by decide) (by decide)) (fun _ _ _ _ => rfl)⟩, g4⟩
theorem cx_back (hM : MS σ X) (hX : XI N X) (hq : ∀ τ, LF σ τ → MS τ (xBack X).2 → Q (some (.int (jI (xBack X).1))) τ) : MW l G (d + 53) mX12_back [.ref 98] σ Q := by
  cases hi : X.im with
  | none =>
    have e : xBack X = (-1, X) := by unfold xBack; rw [hi]
    rw [e] at hq
    refine c_back0 ?_ (hq _ LF.th hM.th)
    cases ho : X.o with
    | none => exact (hM.no ho).2.1
    | some ru =>
      have := (hM.so ho).2.2.2
      rw [hi] at this
      exact this
  | some m =>
    have e : xBack X = (m.1.f 7, xH X X.s (hBack X.H m)) := by unfold xBack; rw [hi]
    rw [e] at hq
    cases ho : X.o with
    | none => have := (hX.no ho).2.2; rw [hi] at this; cases this
    | some ru =>
      have hs := hX.so ho
      have hm := hM.so ho
      have him := hm.2.2.2
      rw [hi] at him
      refine c_back m hs.1 him hm.2.2.1 (fun τ g1 g2 g3 g4 => ?_)
      have F := FA.bk g1 g2 g3
      exact hq τ F.lf (hM.fa ho F g4)
theorem MS.tape {T : Tp} (h : MS σ X) (e : ∀ c, c ≠ 98 → c ≠ 99 → τ.1 c = σ.1 c) (e2 : ∀ k, k ≠ 0 → k ≠ 2 → τ.1 98 k = σ.1 98 k) (hT : TM τ T) : MS τ (T, X.2) := by
  obtain ⟨h1, h2, h3, h4, h5⟩ := h
  refine ⟨hT, h2.fr (e2 16 (by decide) (by decide)) (e 107 (by decide) (by decide)) (e 106 (by decide) (by decide)), fun j hj => by rw [e 105 (by decide) (by decide)]; exact h3 j hj, by rw [e2 27 (by decide) (by decide)]; exact h4, h5.fr (e 101 (by decide) (by decide)) (e 108 (by decide) (by decide)) (e 110 (by decide) (by decide)) (e 111 (by decide) (by decide)) (fun k hk => e2 k ?_ ?_)⟩
  · rintro rfl; exact absurd hk (by decide)
  · rintro rfl; exact absurd hk (by decide)
theorem cx_feed (a b c e f : Int32) (hM : MS σ X) (hq : ∀ τ, LF σ τ → MS τ (xFeed X a b c e f).2 → Q (some (.int (jI (xFeed X a b c e f).1))) τ) : MW l G (d + 53) mX12_feed [.ref 98, .int a, .int b, .int c, .int e, .int f] σ Q := by
  refine c_feed a b c e f hM.1 (fun q => ?_) (fun q τ g1 g2 g3 g4 => ?_)
  · have e' : xFeed X a b c e f = (-1, X) := by unfold xFeed; exact if_neg (by omega)
    rw [e'] at hq
    exact hq _ LF.th hM.th
  · have e' : xFeed X a b c e f = (((tFeed X.T a b c e f).n : Int), (tFeed X.T a b c e f, X.2)) := by unfold xFeed; exact if_pos q
    rw [e'] at hq
    exact hq τ (fun c hc => g1 c (by omega) (by omega)) (hM.tape g1 g3 g4)
theorem cx_end {x : Int32} (hM : MS σ X) (hq : ∀ τ, LF σ τ → MS τ (xEnd X x.toInt).2 → Q (some (.int (jI (xEnd X x.toInt).1))) τ) : MW l G (d + 53) mX12_end [.ref 98, .int x] σ Q := by
  refine c_end x.toInt (jI_R x) hM.1 (fun q => ?_) (fun q τ g1 g2 g3 g4 => ?_) (jI_of x).symm
  · have e' : xEnd X x.toInt = (0, X) := by unfold xEnd; exact if_neg q
    rw [e'] at hq
    exact hq _ LF.th hM.th
  · have e' : xEnd X x.toInt = (1, ((x.toInt.toNat, X.T.b), X.2)) := by unfold xEnd; exact if_pos q
    rw [e'] at hq
    exact hq τ (fun c hc => g1 c (by omega)) (hM.tape (fun c h8 _ => g1 c h8) g3 g4)
theorem cx_fault {x : Int32} (hG : GX G) (hM : MS σ X) (hq : ∀ τ, LF σ τ → MS τ X → Q (some (.int (jI (aFault X.T x.toInt)))) τ) : MW l G (d + 53) mX12_fault [.ref 98, .int x] σ Q := by
  refine c_fault hG x.toInt (jI_R x) hM.1 (fun τ g1 _ _ _ => ?_) (jI_of x).symm
  exact hq τ (fun c hc => g1.1 c (by simp only [List.mem_cons, List.not_mem_nil, or_false, not_or]; omega)) (hM.fx g1)
theorem cx_text {x : Int32} (hG : GX G) (hM : MS σ X) (hX : XI N X) (hq : ∀ τ, LF σ τ → MS τ (xText X x.toInt).2 → Q (some (.int (jI (xText X x.toInt).1))) τ) : MW l G (d + 53) mX12_text [.ref 98, .int x] σ Q := c_text hG x.toInt (jI_R x) hM hX (fun τ g1 _ g3 => hq τ g1 g3) (jI_of x).symm
theorem cx_status {x : Int32} (hM : MS σ X) (hq : ∀ τ, LF σ τ → MS τ X → Q (some (.int (xStat X x.toInt))) τ) : MW l G (d + 53) mX12_status [.ref 98, .int x] σ Q := by
  refine c_status x.toInt (jI_R x) ?_ (jI_of x).symm
  have e : (if 0 ≤ x.toInt ∧ x.toInt ≤ 3 then σ.1 105 x.toInt.toNat else -1) = xStat X x.toInt := by
    unfold xStat
    by_cases q : 0 ≤ x.toInt ∧ x.toInt ≤ 3
    · rw [if_pos q, if_pos q, hM.2.2.1 _ (by omega)]
    · rw [if_neg q, if_neg q]
  rw [e]
  exact hq _ LF.th hM.th
theorem MS.lg (hM : MS σ X) (hX : XI N X) : σ.1 108 313 = jI ((min 60 X.H.E : Nat) : Int) ∧ ∀ i q, i < min 60 X.H.E → q < 3 → σ.1 108 (314 + (3 * i + q)) = X.H.L (X.H.E - min 60 X.H.E + i) q := by
  cases ho : X.o with
  | none =>
    have e0 := (hX.no ho).2.1
    rw [e0]
    exact ⟨(hM.no ho).2.2.2, fun i q hi => absurd hi (by omega)⟩
  | some ru =>
    have := (hM.so ho).2.2.1.1
    exact ⟨this.2.1, this.2.2⟩
theorem cx_log {x y : Int32} (hM : MS σ X) (hX : XI N X) (hq : ∀ τ, LF σ τ → MS τ X → Q (some (.int (hLog X.H x.toInt y.toInt))) τ) : MW l G (d + 53) mX12_log [.ref 98, .int x, .int y] σ Q := c_log x.toInt y.toInt (hM.lg hX) (jI_R x) (jI_R y) (hq _ LF.th hM.th) (jI_of x).symm (jI_of y).symm
theorem cx_step {x y z : Int32} (hM : MS σ X) (hq : ∀ τ, LF σ τ → MS τ X → Q (some (.int (jI (aStep X.S x.toInt y.toInt z.toInt)))) τ) : MW l G (d + 53) mX12_step [.ref 98, .int x, .int y, .int z] σ Q := c_step x.toInt y.toInt z.toInt hM.2.1 (jI_R x) (jI_R y) (jI_R z) (hq _ LF.th hM.th) (jI_of x).symm (jI_of y).symm (jI_of z).symm
theorem cx_run {x y : Int32} (hM : MS σ X) (hX : XI N X) (hq : ∀ τ, LF σ τ → MS τ X → Q (some (.int (jI (xRun X x.toInt y.toInt)))) τ) : MW l G (d + 53) mX12_run [.ref 98, .int x, .int y] σ Q := by
  cases ho : X.o with
  | none =>
    have e : xRun X x.toInt y.toInt = -1000000 := by unfold xRun; rw [ho]
    rw [e] at hq
    exact c0_run x.toInt hM.2.1 (jI_R x) (hM.no ho).1 (hq _ LF.th hM.th) (jI_of x).symm
  | some ru =>
    have e : xRun X x.toInt y.toInt = aRun ru X.H.W X.S x.toInt y.toInt := by unfold xRun; rw [ho]
    rw [e] at hq
    exact c_run x.toInt y.toInt (hM.rm hX ho) hM.2.1 (jI_R x) (jI_R y) (fun τ F => hq τ F.mf (hM.qf F)) (jI_of x).symm (jI_of y).symm
theorem cx_count {x : Int32} (hM : MS σ X) (hX : XI N X) (hq : ∀ τ, LF σ τ → MS τ X → Q (some (.int (xCnt X x.toInt))) τ) : MW l G (d + 53) mX12_count [.ref 98, .int x] σ Q := by
  refine c_count x.toInt (jI (X.S.c : Int)) (jI (X.T.n : Int)) (jI ((min 60 X.H.E : Nat) : Int)) (jI (X.H.A : Int)) (xYr X) ?_ hM.2.1.2.1 hM.1.2.1 (hM.lg hX).1 ?_ (jI_R x) (hq _ LF.th hM.th) (jI_of x).symm
  · unfold xYr
    cases ho : X.o with
    | none => exact Or.inl ⟨(hM.no ho).1, rfl⟩
    | some ru => exact Or.inr ⟨(hM.so ho).1, (hM.so ho).2.1.2 1 (by omega)⟩
  · cases ho : X.o with
    | none =>
      rw [(hX.no ho).1]
      exact (hM.no ho).2.2.1
    | some ru =>
      obtain ⟨_, F, hk⟩ := (hM.so ho).2.2.1
      exact hk.2.2.2.2.1
end MXc
