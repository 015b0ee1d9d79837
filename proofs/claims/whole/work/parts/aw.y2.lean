-- the whole state's bounds stay
def XH (ru : Nat → Int) (N : Nat) (H : Hs) : Prop := WB ru H.W ∧ (∀ j, j < H.A → WB ru (H.V j)) ∧ H.E ≤ N
theorem XH.le {ru : Nat → Int} {N M : Nat} {H : Hs} (h : XH ru N H) (hN : N ≤ M) : XH ru M H := ⟨h.1, h.2.1, Nat.le_trans h.2.2 hN⟩
theorem hAct_X {ru : Nat → Int} {N : Nat} {H : Hs} (hr : RB ru) (h : XH ru N H) (k a b c : Int) (hk : 0 ≤ k ∧ k ≤ 9) : XH ru (N + 1) (hAct ru H k a b c) := by
  refine ⟨hAct_B hr h.1 k a b c hk, ?_, Nat.le_trans (hAct_E ru H k a b c) (Nat.add_le_add_right h.2.2 1)⟩
  unfold hAct
  split
  · intro j hj
    have hj : j < min 40 (H.A + 1) := hj
    show WB ru (Vp H.W H.V j)
    unfold Vp
    by_cases e : j = 0
    · rw [if_pos e]
      exact h.1
    · rw [if_neg e]
      exact h.2.1 (j - 1) (by omega)
  · exact h.2.1
theorem hYears_X {ru : Nat → Int} (hr : RB ru) (n : Nat) : ∀ (N : Nat) (p : Hs × Int64), XH ru N p.1 → XH ru (N + n) (hYears ru n p) := by
  induction n with
  | zero => intro N p h; rw [hYears_0]; exact h
  | succ n ih =>
    intro N p h
    rw [hYears_s]
    exact (ih (N + 1) _ (hAct_X hr h _ _ _ _ (dPick_in ru p.2).1)).le (by omega)
theorem perS_X {ru : Nat → Int} {S : Sc} (hr : RB ru) (hS : SB S) (s : Nat) (hs : s < S.c) : ∀ n N i H, i + n ≤ S.sz s → XH ru N H → XH ru (N + n) (perS ru S s n i H).2
  | 0, N, i, H, _, h => h
  | n + 1, N, i, H, hn, h => by
    unfold perS
    split
    · exact (perS_X hr hS s hs n (N + 1) (i + 1) _ (by omega) (hAct_X hr h _ _ _ _ (hS.2.2.2 s i hs (by omega)))).le (by omega)
    · exact h.le (by omega)
theorem hUndo_X {ru : Nat → Int} {N : Nat} {H : Hs} (h : XH ru N H) (hA : H.A ≠ 0) : XH ru N (hUndo H) := ⟨h.2.1 0 (by omega), fun j hj => h.2.1 (j + 1) (by have hj : j < H.A - 1 := hj; omega), by have := h.2.2; show H.E - 1 ≤ N; omega⟩
/-- the state with other counts of what was refused, other acts -/
def xH (X : Xw) (s : Nat → Int32) (H : Hs) : Xw := (X.T, X.S, s, X.o, H, X.im)
section XP
variable {N : Nat} {X : Xw} {ru : Nat → Int}
theorem XI.h (h : XI N X) (ho : X.o = some ru) : RB ru ∧ XH ru N X.H := ⟨(h.so ho).1, (h.so ho).2.1, (h.so ho).2.2.1, (h.so ho).2.2.2.1⟩
theorem XI.set {M : Nat} {s : Nat → Int32} {H : Hs} (h : XI N X) (ho : X.o = some ru) (hH : XH ru M H) (hN : N ≤ M) : XI M (xH X s H) := by
  show XL M X.o H X.im
  have := h.so ho
  rw [ho]
  exact ⟨this.1, hH.1, hH.2.1, hH.2.2, fun m hm => ⟨(this.2.2.2.2 m hm).1, Nat.le_trans (this.2.2.2.2 m hm).2 hN⟩⟩
theorem XI.le {M : Nat} (h : XI N X) (hN : N ≤ M) : XI M X := by
  unfold XI at h ⊢
  cases ho : X.o with
  | none => rw [ho] at h; exact h
  | some ru =>
    rw [ho] at h
    exact ⟨h.1, h.2.1, h.2.2.1, Nat.le_trans h.2.2.2.1 hN, fun m hm => ⟨(h.2.2.2.2 m hm).1, Nat.le_trans (h.2.2.2.2 m hm).2 hN⟩⟩
theorem XI.eq {Y : Xw} (h : XI N X) (e1 : Y.o = X.o) (e2 : Y.H = X.H) (e3 : Y.im = X.im) : XI N Y := by
  unfold XI at h ⊢
  rw [e1, e2, e3]
  exact h
/-- acts -/
def xAct (X : Xw) (k a b c : Int) : Int × Xw := match X.o with
  | none => (-1, xH X (sUp X.s 1 0) X.H)
  | some ru => (kAns ru X.H.W k a b c, xH X (sUp X.s 1 (wOut ru X.H.W k a b c).1) (hAct ru X.H k a b c))
theorem xAct_X (h : XI N X) (k a b c : Int) (hk : 0 ≤ k ∧ k ≤ 9) : XI (N + 1) (xAct X k a b c).2 := by
  unfold xAct
  cases ho : X.o with
  | none => exact (h.le (by omega)).eq rfl rfl rfl
  | some ru => exact h.set ho (hAct_X (h.h ho).1 (h.h ho).2 k a b c hk) (by omega)
def xYears (X : Xw) (n : Int) (x : Int64) : Int × Xw := match X.o with
  | none => (-1, X)
  | some ru => if 1 ≤ n ∧ n ≤ 40 then ((hYears ru n.toNat (X.H, x)).W.f 7, xH X X.s (hYears ru n.toNat (X.H, x))) else (-1, X)
theorem xYears_X (h : XI N X) (n : Int) (x : Int64) : XI (N + 40) (xYears X n x).2 := by
  unfold xYears
  cases ho : X.o with
  | none => exact h.le (by omega)
  | some ru =>
    dsimp only
    split
    · exact h.set ho ((hYears_X (h.h ho).1 n.toNat N (X.H, x) (h.h ho).2).le (by omega)) (by omega)
    · exact h.le (by omega)
def xUndo (X : Xw) : Int × Xw := if X.H.A = 0 then (-1, X) else (((X.H.A - 1 : Nat) : Int), xH X X.s (hUndo X.H))
theorem xUndo_X (h : XI N X) : XI N (xUndo X).2 := by
  unfold xUndo
  split
  · exact h
  · next q =>
    cases ho : X.o with
    | none => exact absurd (h.no ho).1 q
    | some ru => exact h.set ho (hUndo_X (h.h ho).2 q) (Nat.le_refl _)
def xPer (X : Xw) (s : Int) : Int × Xw := match X.o with
  | none => (-1, X)
  | some ru => if 0 ≤ s ∧ s < (X.S.c : Int) then (((perS ru X.S s.toNat (X.S.sz s.toNat) 0 X.H).1 : Int), xH X X.s (perS ru X.S s.toNat (X.S.sz s.toNat) 0 X.H).2) else (-1, X)
theorem xPer_X (h : XI N X) (hS : SB X.S) (s : Int) : XI (N + 40) (xPer X s).2 := by
  unfold xPer
  cases ho : X.o with
  | none => exact h.le (by omega)
  | some ru =>
    dsimp only
    split
    · next q =>
      have hs : s.toNat < X.S.c := by omega
      have := hS.2.1 s.toNat hs
      exact h.set ho ((perS_X (h.h ho).1 hS s.toNat hs (X.S.sz s.toNat) N 0 X.H (by omega) (h.h ho).2).le (by omega)) (by omega)
    · exact h.le (by omega)
def xImg (X : Xw) : Int × Xw := match X.o with
  | none => (-1, X)
  | some _ => (X.H.W.f 7, (X.T, X.S, X.s, X.o, X.H, some (X.H.W, X.H.E, X.H.L)))
theorem xImg_X (h : XI N X) : XI N (xImg X).2 := by
  unfold xImg
  cases ho : X.o with
  | none => exact h
  | some ru =>
    have hs := h.so ho
    show XL N (some ru) X.H (some (X.H.W, X.H.E, X.H.L))
    refine ⟨hs.1, hs.2.1, hs.2.2.1, hs.2.2.2.1, fun m hm => ?_⟩
    cases hm
    exact ⟨hs.2.1, hs.2.2.2.1⟩
def xBack (X : Xw) : Int × Xw := match X.im with
  | none => (-1, X)
  | some m => (m.1.f 7, xH X X.s (hBack X.H m))
theorem xBack_X (h : XI N X) : XI N (xBack X).2 := by
  unfold xBack
  cases hi : X.im with
  | none => exact h
  | some m =>
    cases ho : X.o with
    | none => have := (h.no ho).2.2; rw [hi] at this; cases this
    | some ru =>
      have := (h.so ho).2.2.2.2 m hi
      exact h.set ho ⟨this.1, fun j hj => absurd hj (by show ¬ j < 0; omega), this.2⟩ (Nat.le_refl _)
def xFeed (X : Xw) (a b c e f : Int32) : Int × Xw := if X.T.n + tSum a b c e f ≤ 320 then (((tFeed X.T a b c e f).n : Int), (tFeed X.T a b c e f, X.2)) else (-1, X)
theorem xFeed_X (h : XI N X) (a b c e f : Int32) : XI N (xFeed X a b c e f).2 := by
  unfold xFeed
  split
  · exact h
  · exact h
def xEnd (X : Xw) (n : Int) : Int × Xw := if 0 ≤ n ∧ n ≤ (X.T.n : Int) then (1, ((n.toNat, X.T.b), X.2)) else (0, X)
theorem xEnd_X (h : XI N X) (n : Int) : XI N (xEnd X n).2 := by
  unfold xEnd
  split
  · exact h
  · exact h
theorem WB_deeds0 {W : Wk} (h : WB ru W) : WB ru (W.deeds (fun _ _ => 0)) := by
  obtain ⟨b1, bc, b3, b4, b6, b7, b8, t1, t2, t3⟩ := h
  refine ⟨b1, bc, b3, b4, b6, b7, b8, t1, t2, fun t k => ?_⟩
  show (0 : Int) ≤ 0 ∧ (0 : Int) ≤ 2
  omega
theorem xText_X (h : XI N X) (i : Int) : XI N (xText X i).2 := by
  unfold xText
  by_cases e0 : i = 0
  · rw [if_pos e0]
    by_cases z : (rdC X.T 0).1 = -1
    · rw [if_pos z]
      obtain ⟨had, p⟩ := rdC_PW z
      have hr := RB_bd p.1.2
      show XL N (some (rdC X.T 0).2.2) (H0 (wLoan (rdC X.T 0).2.2 (rdC X.T 0).2.1)) none
      refine ⟨hr, WB_loan hr _ _ (WB_00 hr) (fun q hq => (p.2.1 q hq).2.2), fun j hj => absurd hj (by show ¬ j < 0; omega), by show 0 ≤ N; omega, fun m hm => by cases hm⟩
    · rw [if_neg z]
      exact h
  · rw [if_neg e0]
    by_cases e1 : i = 1
    · rw [if_pos e1]
      split
      · exact h
      · exact h
    · rw [if_neg e1]
      by_cases e2 : i = 2
      · rw [if_pos e2]
        cases ho : X.o with
        | none => exact h
        | some ru =>
          dsimp only
          by_cases z : (rdC X.T 2).1 = -1
          · rw [if_pos z]
            obtain ⟨had, p⟩ := rdC_PW z
            have hs := h.so ho
            show XL N (some ru) (wPolT ru X.H.W (rdC X.T 2).2.1, X.H.2) X.im
            exact ⟨hs.1, WB_pol _ _ (WB_deeds0 hs.2.1) (fun q hq => by have := p.2.1 q hq; rw [← this.2.1.mpr rfl]; exact this.2.2), hs.2.2.1, hs.2.2.2.1, hs.2.2.2.2⟩
          · rw [if_neg z]
            exact h
      · rw [if_neg e2]
        exact h
end XP
