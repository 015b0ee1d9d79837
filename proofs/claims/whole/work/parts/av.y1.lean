-- questions over the whole state
def KF (σ τ : Mm) : Prop := ∀ c, 98 ≤ c → τ.1 c = σ.1 c
def LF (σ τ : Mm) : Prop := ∀ c, c < 98 → τ.1 c = σ.1 c
def xQ {α : Type} (X : Xw) (n : α) (f : (Nat → Int) → Wk → α) : α := match X.o with
  | none => n
  | some ru => f ru X.H.W
theorem xQ_n {α : Type} {X : Xw} {n : α} {f : (Nat → Int) → Wk → α} (h : X.o = none) : xQ X n f = n := by unfold xQ; rw [h]
theorem xQ_s {α : Type} {X : Xw} {n : α} {f : (Nat → Int) → Wk → α} {ru : Nat → Int} (h : X.o = some ru) : xQ X n f = f ru X.H.W := by unfold xQ; rw [h]
section XQ
variable {l : Launch} {G : GT} {d N : Nat} {σ τ : Mm} {Q : Po} {X : Xw} {ru : Nat → Int}
theorem KS.no (h : KS σ X) (ho : X.o = none) : σ.1 1 1 = 0 := by
  have := h.2.2.2.2.2
  rw [ho] at this
  exact this
theorem KS.so (h : KS σ X) (ho : X.o = some ru) : Kr σ 2 X.H.W ∧ CI σ ru := by
  have := h.2.2.2.2.2
  rw [ho] at this
  exact this
theorem MS.no (h : MS σ X) (ho : X.o = none) : σ.1 98 17 = 0 ∧ σ.1 98 26 = 0 ∧ σ.1 98 25 = 0 ∧ σ.1 108 313 = 0 := by
  have := h.2.2.2.2
  rw [ho] at this
  exact ⟨this.1, this.2.1, this.2.2.1, this.2.2.2.1⟩
theorem MS.so (h : MS σ X) (ho : X.o = some ru) : σ.1 98 17 = 1 ∧ ME σ ru ∧ HM σ ru X.H ∧ IM σ ru X.im := by
  have := h.2.2.2.2
  rw [ho] at this
  exact this
theorem XI.so (h : XI N X) (ho : X.o = some ru) : RB ru ∧ WB ru X.H.W ∧ (∀ j, j < X.H.A → WB ru (X.H.V j)) ∧ X.H.E ≤ N ∧ ∀ m, X.im = some m → WB ru m.1 ∧ m.2.1 ≤ N := by
  unfold XI at h
  rw [ho] at h
  exact h
theorem XI.no (h : XI N X) (ho : X.o = none) : X.H.A = 0 ∧ X.H.E = 0 ∧ X.im = none := by
  unfold XI at h
  rw [ho] at h
  exact h
theorem KS.kq (h : KS σ X) (hX : XI N X) (ho : X.o = some ru) : KQ σ ru X.H.W := ⟨(h.so ho).1, (h.so ho).2, (hX.so ho).2.1⟩
theorem MS.rm (h : MS σ X) (hX : XI N X) (ho : X.o = some ru) : RM σ ru X.H.W := ⟨(h.so ho).1, (h.so ho).2.1, (h.so ho).2.2.1.1.mr, h.2.2.2.1, (hX.so ho).2.1⟩
theorem KF.rf : KF σ σ := fun _ _ => rfl
theorem LF.th {v : Int32} : LF σ (uI σ 98 0 v) := fun c hc => uI_n (by omega)
theorem QK.kf (h : QK σ τ) : KF σ τ := fun c hc => h.1 c (fun z => by
  have : ∀ c ∈ kA, c < 98 := by decide
  have := this c z
  omega)
theorem Qf.mf (h : Qf σ τ) : LF σ τ := fun c hc => h.1 c (fun z => by
  have : ∀ c ∈ qA, 98 ≤ c := by decide
  have := this c z
  omega)
theorem KS.by (h : KS σ X) (ho : X.o = some ru) (e : ∀ c, c ∉ kA → τ.1 c = σ.1 c) (hC : CI τ ru) : KS τ X := by
  obtain ⟨h1, h2, h3, h4, h5, h6⟩ := h
  refine ⟨h1.fr (e 6 (by decide)) (e 7 (by decide)), h2.fr (e 12 (by decide)) (e 14 (by decide)) (e 13 (by decide)), fun j hj => by rw [e 4 (by decide)]; exact h3 j hj, h4.fr (e 64 (by decide)) (e 65 (by decide)) (e 66 (by decide)), h5.fr (e 64 (by decide)) (e 67 (by decide)) (e 68 (by decide)), ?_⟩
  rw [ho] at h6 ⊢
  exact ⟨h6.1.fr (e 2 (by decide)), hC⟩
theorem KS.qk (h : KS σ X) (ho : X.o = some ru) (F : QK σ τ) (hC : CI τ ru) : KS τ X := h.by ho F.1 hC
theorem MS.qf (h : MS σ X) (F : Qf σ τ) : MS τ X := h.fr (fun c hc => F.1 c (fun z => by
    have : ∀ c ∈ qA, c ∉ [99, 101, 105, 108, 110, 111] := by decide
    exact this c z hc)) (fun k hk => F.2.2 k (fun z => by
    have : ∀ c ∈ qK, c ∉ [2, 16, 17, 24, 25, 26, 27] := by decide
    exact this k z hk)) (fun j _ => by rw [F.1 106 (by decide)]) (fun j _ => by rw [F.1 107 (by decide)])
theorem MS.th {v : Int32} (h : MS σ X) : MS (uI σ 98 0 v) X := h.qf (Qf.rf.u8 (by decide))
theorem kx_rule {x : Int32} (hK : KS σ X) (hX : XI N X) (hq : ∀ τ, KF σ τ → KS τ X → Q (some (.int (xQ X (-1) (fun ru W => jI (aRule ru W x.toInt))))) τ) : MW l G (d + 53) mX11_rule [.ref 0, .int x] σ Q := by
  cases ho : X.o with
  | none =>
    rw [xQ_n ho] at hq
    exact k0_rule (hK.no ho) (hq σ KF.rf hK)
  | some ru =>
    rw [xQ_s ho] at hq
    exact k_rule x.toInt (hK.kq hX ho) (jI_R x) (hq σ KF.rf hK) (jI_of x).symm
theorem cx_rule {x : Int32} (hM : MS σ X) (hX : XI N X) (hq : ∀ τ, LF σ τ → MS τ X → Q (some (.int (xQ X (-1) (fun ru W => jI (aRule ru W x.toInt))))) τ) : MW l G (d + 53) mX12_rule [.ref 98, .int x] σ Q := by
  cases ho : X.o with
  | none =>
    rw [xQ_n ho] at hq
    exact c0_rule (hM.no ho).1 (hq _ LF.th hM.th)
  | some ru =>
    rw [xQ_s ho] at hq
    exact c_rule x.toInt (hM.rm hX ho) (jI_R x) (fun τ F => hq τ F.mf (hM.qf F)) (jI_of x).symm
theorem kx_year {x y : Int32} (hK : KS σ X) (hX : XI N X) (hq : ∀ τ, KF σ τ → KS τ X → Q (some (.int (xQ X (-1) (fun ru W => jI (aYear ru W x.toInt y.toInt))))) τ) : MW l G (d + 53) mX11_year [.ref 0, .int x, .int y] σ Q := by
  cases ho : X.o with
  | none =>
    rw [xQ_n ho] at hq
    exact k0_year (hK.no ho) (hq σ KF.rf hK)
  | some ru =>
    rw [xQ_s ho] at hq
    exact k_year x.toInt y.toInt (hK.kq hX ho) (jI_R x) (jI_R y) (fun τ F C => hq τ F.kf (hK.qk ho F C)) (jI_of x).symm (jI_of y).symm
theorem cx_year {x y : Int32} (hM : MS σ X) (hX : XI N X) (hq : ∀ τ, LF σ τ → MS τ X → Q (some (.int (xQ X (-1) (fun ru W => jI (aYear ru W x.toInt y.toInt))))) τ) : MW l G (d + 53) mX12_year [.ref 98, .int x, .int y] σ Q := by
  cases ho : X.o with
  | none =>
    rw [xQ_n ho] at hq
    exact c0_year (hM.no ho).1 (hq _ LF.th hM.th)
  | some ru =>
    rw [xQ_s ho] at hq
    exact c_year x.toInt y.toInt (hM.rm hX ho) (jI_R x) (jI_R y) (fun τ F => hq τ F.mf (hM.qf F)) (jI_of x).symm (jI_of y).symm
theorem kx_costs {x y z : Int32} (hK : KS σ X) (hX : XI N X) (hq : ∀ τ, KF σ τ → KS τ X → Q (some (.long (xQ X (jL (if ¬ (0 ≤ z.toInt ∧ z.toInt ≤ 3) then -1000000 else -1)) (fun ru W => jL (aCosts ru W x.toInt y.toInt z.toInt))))) τ) : MW l G (d + 53) mX11_costs [.ref 0, .int x, .int y, .int z] σ Q := by
  cases ho : X.o with
  | none =>
    rw [xQ_n ho] at hq
    exact k0_costs x.toInt y.toInt z.toInt (jI_R x) (jI_R y) (jI_R z) (hK.no ho) (hq σ KF.rf hK) (jI_of x).symm (jI_of y).symm (jI_of z).symm
  | some ru =>
    rw [xQ_s ho] at hq
    exact k_costs x.toInt y.toInt z.toInt (hK.kq hX ho) (jI_R x) (jI_R y) (jI_R z) (fun τ F C => hq τ F.kf (hK.qk ho F C)) (jI_of x).symm (jI_of y).symm (jI_of z).symm
theorem cx_costs {x y z : Int32} (hM : MS σ X) (hX : XI N X) (hq : ∀ τ, LF σ τ → MS τ X → Q (some (.long (xQ X (jL (if ¬ (0 ≤ z.toInt ∧ z.toInt ≤ 3) then -1000000 else -1)) (fun ru W => jL (aCosts ru W x.toInt y.toInt z.toInt))))) τ) : MW l G (d + 53) mX12_costs [.ref 98, .int x, .int y, .int z] σ Q := by
  cases ho : X.o with
  | none =>
    rw [xQ_n ho] at hq
    exact c0_costs z.toInt (jI_R z) (hM.no ho).1 (hq _ LF.th hM.th) (jI_of z).symm
  | some ru =>
    rw [xQ_s ho] at hq
    exact c_costs x.toInt y.toInt z.toInt (hM.rm hX ho) (jI_R x) (jI_R y) (jI_R z) (fun τ F => hq τ F.mf (hM.qf F)) (jI_of x).symm (jI_of y).symm (jI_of z).symm
theorem kx_best {x y : Int32} (hK : KS σ X) (hX : XI N X) (hq : ∀ τ, KF σ τ → KS τ X → Q (some (.int (xQ X (-1) (fun ru W => jI (aBest ru W x.toInt y.toInt))))) τ) : MW l G (d + 53) mX11_best [.ref 0, .int x, .int y] σ Q := by
  cases ho : X.o with
  | none =>
    rw [xQ_n ho] at hq
    exact k0_best x.toInt y.toInt (jI_R x) (jI_R y) (hK.no ho) (hq σ KF.rf hK) (jI_of x).symm (jI_of y).symm
  | some ru =>
    rw [xQ_s ho] at hq
    exact k_best x.toInt y.toInt (hK.kq hX ho) (jI_R x) (jI_R y) (fun τ F C => hq τ F.kf (hK.qk ho F C)) (jI_of x).symm (jI_of y).symm
theorem cx_best {x y : Int32} (hM : MS σ X) (hX : XI N X) (hq : ∀ τ, LF σ τ → MS τ X → Q (some (.int (xQ X (-1) (fun ru W => jI (aBest ru W x.toInt y.toInt))))) τ) : MW l G (d + 53) mX12_best [.ref 98, .int x, .int y] σ Q := by
  cases ho : X.o with
  | none =>
    rw [xQ_n ho] at hq
    exact c0_best (hM.no ho).1 (hq _ LF.th hM.th)
  | some ru =>
    rw [xQ_s ho] at hq
    exact c_best x.toInt y.toInt (hM.rm hX ho) (jI_R x) (jI_R y) (fun τ F => hq τ F.mf (hM.qf F)) (jI_of x).symm (jI_of y).symm
theorem kx_way {x y : Int32} (hK : KS σ X) (hX : XI N X) (hq : ∀ τ, KF σ τ → KS τ X → Q (some (.int (xQ X (-1) (fun ru W => jI (aWay ru W x x.toInt y.toInt))))) τ) : MW l G (d + 53) mX11_way [.ref 0, .int x, .int y] σ Q := by
  cases ho : X.o with
  | none =>
    rw [xQ_n ho] at hq
    exact k0_way (hK.no ho) (hq σ KF.rf hK)
  | some ru =>
    rw [xQ_s ho] at hq
    exact k_way x.toInt y.toInt (hK.kq hX ho) (jI_R x) (jI_R y) (fun τ F C => hq τ F.kf (hK.qk ho F C)) (jI_of x).symm (jI_of y).symm
theorem cx_way {x y : Int32} (hM : MS σ X) (hX : XI N X) (hq : ∀ τ, LF σ τ → MS τ X → Q (some (.int (xQ X (-1) (fun ru W => jI (aWay ru W x x.toInt y.toInt))))) τ) : MW l G (d + 53) mX12_way [.ref 98, .int x, .int y] σ Q := by
  cases ho : X.o with
  | none =>
    rw [xQ_n ho] at hq
    exact c0_way (hM.no ho).1 (hq _ LF.th hM.th)
  | some ru =>
    rw [xQ_s ho] at hq
    exact c_way x.toInt y.toInt (hM.rm hX ho) (jI_R x) (jI_R y) (fun τ F => hq τ F.mf (hM.qf F)) (jI_of x).symm (jI_of y).symm
theorem kx_mass {x y : Int32} (hK : KS σ X) (hX : XI N X) (hq : ∀ τ, KF σ τ → KS τ X → Q (some (.int (xQ X (-1) (fun ru W => aMass ru W x.toInt y.toInt)))) τ) : MW l G (d + 53) mX11_mass [.ref 0, .int x, .int y] σ Q := by
  cases ho : X.o with
  | none =>
    rw [xQ_n ho] at hq
    exact k0_mass (hK.no ho) (hq σ KF.rf hK)
  | some ru =>
    rw [xQ_s ho] at hq
    exact k_mass x.toInt y.toInt (hK.kq hX ho) (jI_R x) (jI_R y) (fun τ F C => hq τ F.kf (hK.qk ho F C)) (jI_of x).symm (jI_of y).symm
theorem cx_mass {x y : Int32} (hM : MS σ X) (hX : XI N X) (hq : ∀ τ, LF σ τ → MS τ X → Q (some (.int (xQ X (-1) (fun ru W => aMass ru W x.toInt y.toInt)))) τ) : MW l G (d + 53) mX12_mass [.ref 98, .int x, .int y] σ Q := by
  cases ho : X.o with
  | none =>
    rw [xQ_n ho] at hq
    exact c0_mass (hM.no ho).1 (hq _ LF.th hM.th)
  | some ru =>
    rw [xQ_s ho] at hq
    exact c_mass x.toInt y.toInt (hM.rm hX ho) (jI_R x) (jI_R y) (fun τ F => hq τ F.mf (hM.qf F)) (jI_of x).symm (jI_of y).symm
theorem kx_masses {x : Int32} (hK : KS σ X) (hX : XI N X) (hq : ∀ τ, KF σ τ → KS τ X → Q (some (.int (xQ X (-1) (fun ru W => aMasses ru W x.toInt)))) τ) : MW l G (d + 53) mX11_masses [.ref 0, .int x] σ Q := by
  cases ho : X.o with
  | none =>
    rw [xQ_n ho] at hq
    exact k0_masses (hK.no ho) (hq σ KF.rf hK)
  | some ru =>
    rw [xQ_s ho] at hq
    exact k_masses x.toInt (hK.kq hX ho) (jI_R x) (fun τ F C => hq τ F.kf (hK.qk ho F C)) (jI_of x).symm
theorem cx_masses {x : Int32} (hM : MS σ X) (hX : XI N X) (hq : ∀ τ, LF σ τ → MS τ X → Q (some (.int (xQ X (-1) (fun ru W => aMasses ru W x.toInt)))) τ) : MW l G (d + 53) mX12_masses [.ref 98, .int x] σ Q := by
  cases ho : X.o with
  | none =>
    rw [xQ_n ho] at hq
    exact c0_masses (hM.no ho).1 (hq _ LF.th hM.th)
  | some ru =>
    rw [xQ_s ho] at hq
    exact c_masses x.toInt (hM.rm hX ho) (jI_R x) (fun τ F => hq τ F.mf (hM.qf F)) (jI_of x).symm
theorem kx_worth (hK : KS σ X) (hX : XI N X) (hq : ∀ τ, KF σ τ → KS τ X → Q (some (.long (xQ X (-1) (fun ru W => jL (aWorth ru W))))) τ) : MW l G (d + 53) mX11_worth [.ref 0] σ Q := by
  cases ho : X.o with
  | none =>
    rw [xQ_n ho] at hq
    exact k0_worth (hK.no ho) (hq σ KF.rf hK)
  | some ru =>
    rw [xQ_s ho] at hq
    exact k_worth (hK.kq hX ho) (fun τ F C => hq τ F.kf (hK.qk ho F C))
theorem cx_worth (hM : MS σ X) (hX : XI N X) (hq : ∀ τ, LF σ τ → MS τ X → Q (some (.long (xQ X (-1) (fun ru W => jL (aWorth ru W))))) τ) : MW l G (d + 53) mX12_worth [.ref 98] σ Q := by
  cases ho : X.o with
  | none =>
    rw [xQ_n ho] at hq
    exact c0_worth (hM.no ho).1 (hq _ LF.th hM.th)
  | some ru =>
    rw [xQ_s ho] at hq
    exact c_worth (hM.rm hX ho) (fun τ F => hq τ F.mf (hM.qf F))
theorem kx_margin (hK : KS σ X) (hX : XI N X) (hq : ∀ τ, KF σ τ → KS τ X → Q (some (.long (xQ X (-1000000) (fun ru W => jL (aMargin ru W))))) τ) : MW l G (d + 53) mX11_margin [.ref 0] σ Q := by
  cases ho : X.o with
  | none =>
    rw [xQ_n ho] at hq
    exact k0_margin (hK.no ho) (hq σ KF.rf hK)
  | some ru =>
    rw [xQ_s ho] at hq
    exact k_margin (hK.kq hX ho) (fun τ F C => hq τ F.kf (hK.qk ho F C))
theorem cx_margin (hM : MS σ X) (hX : XI N X) (hq : ∀ τ, LF σ τ → MS τ X → Q (some (.long (xQ X (-1000000) (fun ru W => jL (aMargin ru W))))) τ) : MW l G (d + 53) mX12_margin [.ref 98] σ Q := by
  cases ho : X.o with
  | none =>
    rw [xQ_n ho] at hq
    exact c0_margin (hM.no ho).1 (hq _ LF.th hM.th)
  | some ru =>
    rw [xQ_s ho] at hq
    exact c_margin (hM.rm hX ho) (fun τ F => hq τ F.mf (hM.qf F))
theorem kx_till (hK : KS σ X) (hX : XI N X) (hq : ∀ τ, KF σ τ → KS τ X → Q (some (.int (xQ X (-1) (fun ru W => jI (aTill ru W))))) τ) : MW l G (d + 53) mX11_till [.ref 0] σ Q := by
  cases ho : X.o with
  | none =>
    rw [xQ_n ho] at hq
    exact k0_till (hK.no ho) (hq σ KF.rf hK)
  | some ru =>
    rw [xQ_s ho] at hq
    exact k_till (hK.kq hX ho) (fun τ F C => hq τ F.kf (hK.qk ho F C))
theorem cx_till (hM : MS σ X) (hX : XI N X) (hq : ∀ τ, LF σ τ → MS τ X → Q (some (.int (xQ X (-1) (fun ru W => jI (aTill ru W))))) τ) : MW l G (d + 53) mX12_till [.ref 98] σ Q := by
  cases ho : X.o with
  | none =>
    rw [xQ_n ho] at hq
    exact c0_till (hM.no ho).1 (hq _ LF.th hM.th)
  | some ru =>
    rw [xQ_s ho] at hq
    exact c_till (hM.rm hX ho) (fun τ F => hq τ F.mf (hM.qf F))
theorem kx_edge {x : Int32} (hK : KS σ X) (hX : XI N X) (hq : ∀ τ, KF σ τ → KS τ X → Q (some (.int (xQ X (-1) (fun ru W => jI (aEdge ru W x.toInt))))) τ) : MW l G (d + 53) mX11_edge [.ref 0, .int x] σ Q := by
  cases ho : X.o with
  | none =>
    rw [xQ_n ho] at hq
    exact k0_edge x.toInt (jI_R x) (hK.no ho) (hq σ KF.rf hK) (jI_of x).symm
  | some ru =>
    rw [xQ_s ho] at hq
    exact k_edge x.toInt (hK.kq hX ho) (jI_R x) (fun τ F C => hq τ F.kf (hK.qk ho F C)) (jI_of x).symm
theorem cx_edge {x : Int32} (hM : MS σ X) (hX : XI N X) (hq : ∀ τ, LF σ τ → MS τ X → Q (some (.int (xQ X (-1) (fun ru W => jI (aEdge ru W x.toInt))))) τ) : MW l G (d + 53) mX12_edge [.ref 98, .int x] σ Q := by
  cases ho : X.o with
  | none =>
    rw [xQ_n ho] at hq
    exact c0_edge (hM.no ho).1 (hq _ LF.th hM.th)
  | some ru =>
    rw [xQ_s ho] at hq
    exact c_edge x.toInt (hM.rm hX ho) (jI_R x) (fun τ F => hq τ F.mf (hM.qf F)) (jI_of x).symm
theorem kx_fair (hK : KS σ X) (hX : XI N X) (hq : ∀ τ, KF σ τ → KS τ X → Q (some (.int (xQ X (-1) (fun ru W => jI (aFair ru W))))) τ) : MW l G (d + 53) mX11_fair [.ref 0] σ Q := by
  cases ho : X.o with
  | none =>
    rw [xQ_n ho] at hq
    exact k0_fair (hK.no ho) (hq σ KF.rf hK)
  | some ru =>
    rw [xQ_s ho] at hq
    exact k_fair (hK.kq hX ho) (fun τ F C => hq τ F.kf (hK.qk ho F C))
theorem cx_fair (hM : MS σ X) (hX : XI N X) (hq : ∀ τ, LF σ τ → MS τ X → Q (some (.int (xQ X (-1) (fun ru W => jI (aFair ru W))))) τ) : MW l G (d + 53) mX12_fair [.ref 98] σ Q := by
  cases ho : X.o with
  | none =>
    rw [xQ_n ho] at hq
    exact c0_fair (hM.no ho).1 (hq _ LF.th hM.th)
  | some ru =>
    rw [xQ_s ho] at hq
    exact c_fair (hM.rm hX ho) (fun τ F => hq τ F.mf (hM.qf F))
theorem kx_ending {x y : Int32} (hK : KS σ X) (hX : XI N X) (hq : ∀ τ, KF σ τ → KS τ X → Q (some (.int (xQ X (-1) (fun ru W => aEnding ru W x.toInt y.toInt)))) τ) : MW l G (d + 53) mX11_ending [.ref 0, .int x, .int y] σ Q := by
  cases ho : X.o with
  | none =>
    rw [xQ_n ho] at hq
    exact k0_ending (hK.no ho) (hq σ KF.rf hK)
  | some ru =>
    rw [xQ_s ho] at hq
    exact k_ending x.toInt y.toInt (hK.kq hX ho) (jI_R x) (jI_R y) (fun τ F C => hq τ F.kf (hK.qk ho F C)) (jI_of x).symm (jI_of y).symm
theorem cx_ending {x y : Int32} (hM : MS σ X) (hX : XI N X) (hq : ∀ τ, LF σ τ → MS τ X → Q (some (.int (xQ X (-1) (fun ru W => aEnding ru W x.toInt y.toInt)))) τ) : MW l G (d + 53) mX12_ending [.ref 98, .int x, .int y] σ Q := by
  cases ho : X.o with
  | none =>
    rw [xQ_n ho] at hq
    exact c0_ending (hM.no ho).1 (hq _ LF.th hM.th)
  | some ru =>
    rw [xQ_s ho] at hq
    exact c_ending x.toInt y.toInt (hM.rm hX ho) (jI_R x) (jI_R y) (fun τ F => hq τ F.mf (hM.qf F)) (jI_of x).symm (jI_of y).symm
theorem kx_saved (hK : KS σ X) (hX : XI N X) (hq : ∀ τ, KF σ τ → KS τ X → Q (some (.long (xQ X (-1) (fun ru W => jL (aSaved ru W))))) τ) : MW l G (d + 53) mX11_saved [.ref 0] σ Q := by
  cases ho : X.o with
  | none =>
    rw [xQ_n ho] at hq
    exact k0_saved (hK.no ho) (hq σ KF.rf hK)
  | some ru =>
    rw [xQ_s ho] at hq
    exact k_saved (hK.kq hX ho) (fun τ F C => hq τ F.kf (hK.qk ho F C))
theorem cx_saved (hM : MS σ X) (hX : XI N X) (hq : ∀ τ, LF σ τ → MS τ X → Q (some (.long (xQ X (-1) (fun ru W => jL (aSaved ru W))))) τ) : MW l G (d + 53) mX12_saved [.ref 98] σ Q := by
  cases ho : X.o with
  | none =>
    rw [xQ_n ho] at hq
    exact c0_saved (hM.no ho).1 (hq _ LF.th hM.th)
  | some ru =>
    rw [xQ_s ho] at hq
    exact c_saved (hM.rm hX ho) (fun τ F => hq τ F.mf (hM.qf F))
theorem kx_sums {x : Int32} (hK : KS σ X) (hX : XI N X) (hq : ∀ τ, KF σ τ → KS τ X → Q (some (.int (xQ X (-1) (fun ru W => jI (aSums ru W x.toInt))))) τ) : MW l G (d + 53) mX11_sums [.ref 0, .int x] σ Q := by
  cases ho : X.o with
  | none =>
    rw [xQ_n ho] at hq
    exact k0_sums (hK.no ho) (hq σ KF.rf hK)
  | some ru =>
    rw [xQ_s ho] at hq
    exact k_sums x.toInt (hK.kq hX ho) (jI_R x) (fun τ F C => hq τ F.kf (hK.qk ho F C)) (jI_of x).symm
theorem cx_sums {x : Int32} (hM : MS σ X) (hX : XI N X) (hq : ∀ τ, LF σ τ → MS τ X → Q (some (.int (xQ X (-1) (fun ru W => jI (aSums ru W x.toInt))))) τ) : MW l G (d + 53) mX12_sums [.ref 98, .int x] σ Q := by
  cases ho : X.o with
  | none =>
    rw [xQ_n ho] at hq
    exact c0_sums (hM.no ho).1 (hq _ LF.th hM.th)
  | some ru =>
    rw [xQ_s ho] at hq
    exact c_sums x.toInt (hM.rm hX ho) (jI_R x) (fun τ F => hq τ F.mf (hM.qf F)) (jI_of x).symm
theorem kx_deed {x y : Int32} (hK : KS σ X) (hX : XI N X) (hq : ∀ τ, KF σ τ → KS τ X → Q (some (.int (xQ X (-1) (fun ru W => jI (aDeed ru W x.toInt y.toInt))))) τ) : MW l G (d + 53) mX11_deed [.ref 0, .int x, .int y] σ Q := by
  cases ho : X.o with
  | none =>
    rw [xQ_n ho] at hq
    exact k0_deed x.toInt y.toInt (jI_R x) (jI_R y) (hK.no ho) (hq σ KF.rf hK) (jI_of x).symm (jI_of y).symm
  | some ru =>
    rw [xQ_s ho] at hq
    exact k_deed x.toInt y.toInt (hK.kq hX ho) (jI_R x) (jI_R y) (hq σ KF.rf hK) (jI_of x).symm (jI_of y).symm
theorem cx_deed {x y : Int32} (hM : MS σ X) (hX : XI N X) (hq : ∀ τ, LF σ τ → MS τ X → Q (some (.int (xQ X (-1) (fun ru W => jI (aDeed ru W x.toInt y.toInt))))) τ) : MW l G (d + 53) mX12_deed [.ref 98, .int x, .int y] σ Q := by
  cases ho : X.o with
  | none =>
    rw [xQ_n ho] at hq
    exact c0_deed (hM.no ho).1 (hq _ LF.th hM.th)
  | some ru =>
    rw [xQ_s ho] at hq
    exact c_deed x.toInt y.toInt (hM.rm hX ho) (jI_R x) (jI_R y) (fun τ F => hq τ F.mf (hM.qf F)) (jI_of x).symm (jI_of y).symm
theorem kx_byPolicy {x y : Int32} (hK : KS σ X) (hX : XI N X) (hq : ∀ τ, KF σ τ → KS τ X → Q (some (.long (xQ X (-1) (fun ru W => jL (aByPolicy ru W x.toInt y.toInt))))) τ) : MW l G (d + 53) mX11_byPolicy [.ref 0, .int x, .int y] σ Q := by
  cases ho : X.o with
  | none =>
    rw [xQ_n ho] at hq
    exact k0_byPolicy x.toInt y.toInt (jI_R x) (jI_R y) (hK.no ho) (hq σ KF.rf hK) (jI_of x).symm (jI_of y).symm
  | some ru =>
    rw [xQ_s ho] at hq
    exact k_byPolicy x.toInt y.toInt (hK.kq hX ho) (jI_R x) (jI_R y) (fun τ F C => hq τ F.kf (hK.qk ho F C)) (jI_of x).symm (jI_of y).symm
theorem cx_byPolicy {x y : Int32} (hM : MS σ X) (hX : XI N X) (hq : ∀ τ, LF σ τ → MS τ X → Q (some (.long (xQ X (-1) (fun ru W => jL (aByPolicy ru W x.toInt y.toInt))))) τ) : MW l G (d + 53) mX12_byPolicy [.ref 98, .int x, .int y] σ Q := by
  cases ho : X.o with
  | none =>
    rw [xQ_n ho] at hq
    exact c0_byPolicy (hM.no ho).1 (hq _ LF.th hM.th)
  | some ru =>
    rw [xQ_s ho] at hq
    exact c_byPolicy x.toInt y.toInt (hM.rm hX ho) (jI_R x) (jI_R y) (fun τ F => hq τ F.mf (hM.qf F)) (jI_of x).symm (jI_of y).symm
theorem kx_regret (hK : KS σ X) (hX : XI N X) (hq : ∀ τ, KF σ τ → KS τ X → Q (some (.long (xQ X (-1) (fun ru W => jL (aRegret ru W))))) τ) : MW l G (d + 53) mX11_regret [.ref 0] σ Q := by
  cases ho : X.o with
  | none =>
    rw [xQ_n ho] at hq
    exact k0_regret (hK.no ho) (hq σ KF.rf hK)
  | some ru =>
    rw [xQ_s ho] at hq
    exact k_regret (hK.kq hX ho) (fun τ F C => hq τ F.kf (hK.qk ho F C))
theorem cx_regret (hM : MS σ X) (hX : XI N X) (hq : ∀ τ, LF σ τ → MS τ X → Q (some (.long (xQ X (-1) (fun ru W => jL (aRegret ru W))))) τ) : MW l G (d + 53) mX12_regret [.ref 98] σ Q := by
  cases ho : X.o with
  | none =>
    rw [xQ_n ho] at hq
    exact c0_regret (hM.no ho).1 (hq _ LF.th hM.th)
  | some ru =>
    rw [xQ_s ho] at hq
    exact c_regret (hM.rm hX ho) (fun τ F => hq τ F.mf (hM.qf F))
theorem kx_strays {x : Int32} (hK : KS σ X) (hX : XI N X) (hq : ∀ τ, KF σ τ → KS τ X → Q (some (.int (xQ X (-1) (fun ru W => jI (aStrays ru W x.toInt))))) τ) : MW l G (d + 53) mX11_strays [.ref 0, .int x] σ Q := by
  cases ho : X.o with
  | none =>
    rw [xQ_n ho] at hq
    exact k0_strays (hK.no ho) (hq σ KF.rf hK)
  | some ru =>
    rw [xQ_s ho] at hq
    exact k_strays x.toInt (hK.kq hX ho) (jI_R x) (fun τ F C => hq τ F.kf (hK.qk ho F C)) (jI_of x).symm
theorem cx_strays {x : Int32} (hM : MS σ X) (hX : XI N X) (hq : ∀ τ, LF σ τ → MS τ X → Q (some (.int (xQ X (-1) (fun ru W => jI (aStrays ru W x.toInt))))) τ) : MW l G (d + 53) mX12_strays [.ref 98, .int x] σ Q := by
  cases ho : X.o with
  | none =>
    rw [xQ_n ho] at hq
    exact c0_strays (hM.no ho).1 (hq _ LF.th hM.th)
  | some ru =>
    rw [xQ_s ho] at hq
    exact c_strays x.toInt (hM.rm hX ho) (jI_R x) (fun τ F => hq τ F.mf (hM.qf F)) (jI_of x).symm
theorem kx_mended {x y : Int32} (hK : KS σ X) (hX : XI N X) (hq : ∀ τ, KF σ τ → KS τ X → Q (some (.int (xQ X (-1) (fun ru W => jI (aMended ru W x.toInt y.toInt))))) τ) : MW l G (d + 53) mX11_mended [.ref 0, .int x, .int y] σ Q := by
  cases ho : X.o with
  | none =>
    rw [xQ_n ho] at hq
    exact k0_mended x.toInt y.toInt (jI_R x) (jI_R y) (hK.no ho) (hq σ KF.rf hK) (jI_of x).symm (jI_of y).symm
  | some ru =>
    rw [xQ_s ho] at hq
    exact k_mended x.toInt y.toInt (hK.kq hX ho) (jI_R x) (jI_R y) (fun τ F C => hq τ F.kf (hK.qk ho F C)) (jI_of x).symm (jI_of y).symm
theorem cx_mended {x y : Int32} (hM : MS σ X) (hX : XI N X) (hq : ∀ τ, LF σ τ → MS τ X → Q (some (.int (xQ X (-1) (fun ru W => jI (aMended ru W x.toInt y.toInt))))) τ) : MW l G (d + 53) mX12_mended [.ref 98, .int x, .int y] σ Q := by
  cases ho : X.o with
  | none =>
    rw [xQ_n ho] at hq
    exact c0_mended (hM.no ho).1 (hq _ LF.th hM.th)
  | some ru =>
    rw [xQ_s ho] at hq
    exact c_mended x.toInt y.toInt (hM.rm hX ho) (jI_R x) (jI_R y) (fun τ F => hq τ F.mf (hM.qf F)) (jI_of x).symm (jI_of y).symm
theorem kx_rounds (hK : KS σ X) (hX : XI N X) (hq : ∀ τ, KF σ τ → KS τ X → Q (some (.int (xQ X (-1) (fun ru W => jI (aRounds ru W))))) τ) : MW l G (d + 53) mX11_rounds [.ref 0] σ Q := by
  cases ho : X.o with
  | none =>
    rw [xQ_n ho] at hq
    exact k0_rounds (hK.no ho) (hq σ KF.rf hK)
  | some ru =>
    rw [xQ_s ho] at hq
    exact k_rounds (hK.kq hX ho) (fun τ F C => hq τ F.kf (hK.qk ho F C))
theorem cx_rounds (hM : MS σ X) (hX : XI N X) (hq : ∀ τ, LF σ τ → MS τ X → Q (some (.int (xQ X (-1) (fun ru W => jI (aRounds ru W))))) τ) : MW l G (d + 53) mX12_rounds [.ref 98] σ Q := by
  cases ho : X.o with
  | none =>
    rw [xQ_n ho] at hq
    exact c0_rounds (hM.no ho).1 (hq _ LF.th hM.th)
  | some ru =>
    rw [xQ_s ho] at hq
    exact c_rounds (hM.rm hX ho) (fun τ F => hq τ F.mf (hM.qf F))
theorem kx_shifted {x : Int32} (hK : KS σ X) (hX : XI N X) (hq : ∀ τ, KF σ τ → KS τ X → Q (some (.long (xQ X (-1) (fun ru W => jL (aShifted ru W x.toInt))))) τ) : MW l G (d + 53) mX11_shifted [.ref 0, .int x] σ Q := by
  cases ho : X.o with
  | none =>
    rw [xQ_n ho] at hq
    exact k0_shifted (hK.no ho) (hq σ KF.rf hK)
  | some ru =>
    rw [xQ_s ho] at hq
    exact k_shifted x.toInt (hK.kq hX ho) (jI_R x) (fun τ F C => hq τ F.kf (hK.qk ho F C)) (jI_of x).symm
theorem cx_shifted {x : Int32} (hM : MS σ X) (hX : XI N X) (hq : ∀ τ, LF σ τ → MS τ X → Q (some (.long (xQ X (-1) (fun ru W => jL (aShifted ru W x.toInt))))) τ) : MW l G (d + 53) mX12_shifted [.ref 98, .int x] σ Q := by
  cases ho : X.o with
  | none =>
    rw [xQ_n ho] at hq
    exact c0_shifted (hM.no ho).1 (hq _ LF.th hM.th)
  | some ru =>
    rw [xQ_s ho] at hq
    exact c_shifted x.toInt (hM.rm hX ho) (jI_R x) (fun τ F => hq τ F.mf (hM.qf F)) (jI_of x).symm
theorem kx_spread {x : Int32} {M : Nat} (hMM : M = 163840) (hK : KS σ X) (hX : XI N X) (hq : ∀ τ, KF σ τ → KS τ X → Q (some (.int (xQ X (-1) (fun ru W => jI (aSpread ru W M x.toInt))))) τ) : MW l G (d + 53) mX11_spread [.ref 0, .int x] σ Q := by
  cases ho : X.o with
  | none =>
    rw [xQ_n ho] at hq
    exact k0_spread (hK.no ho) (hq σ KF.rf hK)
  | some ru =>
    rw [xQ_s ho] at hq
    exact k_spread x.toInt hMM (hK.kq hX ho) (jI_R x) (fun τ F C => hq τ F.kf (hK.qk ho F C)) (jI_of x).symm
theorem cx_spread {x : Int32} {M : Nat} (hMM : M = 163840) (hM : MS σ X) (hX : XI N X) (hq : ∀ τ, LF σ τ → MS τ X → Q (some (.int (xQ X (-1) (fun ru W => jI (aSpread ru W M x.toInt))))) τ) : MW l G (d + 53) mX12_spread [.ref 98, .int x] σ Q := by
  cases ho : X.o with
  | none =>
    rw [xQ_n ho] at hq
    exact c0_spread (hM.no ho).1 (hq _ LF.th hM.th)
  | some ru =>
    rw [xQ_s ho] at hq
    exact c_spread x.toInt hMM (hM.rm hX ho) (jI_R x) (fun τ F => hq τ F.mf (hM.qf F)) (jI_of x).symm
theorem kx_most {x : Int32} (hK : KS σ X) (hX : XI N X) (hq : ∀ τ, KF σ τ → KS τ X → Q (some (.int (xQ X (-1000000) (fun ru W => jI (aMost ru W x.toInt))))) τ) : MW l G (d + 53) mX11_most [.ref 0, .int x] σ Q := by
  cases ho : X.o with
  | none =>
    rw [xQ_n ho] at hq
    exact k0_most (hK.no ho) (hq σ KF.rf hK)
  | some ru =>
    rw [xQ_s ho] at hq
    exact k_most x.toInt (hK.kq hX ho) (jI_R x) (fun τ F C => hq τ F.kf (hK.qk ho F C)) (jI_of x).symm
theorem cx_most {x : Int32} (hM : MS σ X) (hX : XI N X) (hq : ∀ τ, LF σ τ → MS τ X → Q (some (.int (xQ X (-1000000) (fun ru W => jI (aMost ru W x.toInt))))) τ) : MW l G (d + 53) mX12_most [.ref 98, .int x] σ Q := by
  cases ho : X.o with
  | none =>
    rw [xQ_n ho] at hq
    exact c0_most (hM.no ho).1 (hq _ LF.th hM.th)
  | some ru =>
    rw [xQ_s ho] at hq
    exact c_most x.toInt (hM.rm hX ho) (jI_R x) (fun τ F => hq τ F.mf (hM.qf F)) (jI_of x).symm
end XQ
