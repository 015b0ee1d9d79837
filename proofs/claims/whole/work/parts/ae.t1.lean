-- till: purely
theorem zb_ra {ru am : Nat → Int} {ra ra' : Nat → Nat → Int} {cp : Int} {X X' : Nat → Nat → Int} (t0 : Nat) (hra : ∀ t h, t0 ≤ t → ra t h = ra' t h) (hX : ∀ t h, t0 ≤ t → X t h = X' t h) : ∀ s t h, t0 ≤ t → zb ru am ra cp X s t h = zb ru am ra' cp X' s t h
  | 0, t, h, ht => hX t h ht
  | s + 1, t, h, ht => by
    show zn ru ra t h (zd ru am cp (t + 1) + zb ru am ra cp X s (t + 1) (h + 1)) (zd ru am cp (t + 1) + zb ru am ra cp X s (t + 1) h) = zn ru ra' t h (zd ru am cp (t + 1) + zb ru am ra' cp X' s (t + 1) (h + 1)) (zd ru am cp (t + 1) + zb ru am ra' cp X' s (t + 1) h)
    rw [zb_ra t0 hra hX s (t + 1) (h + 1) (by omega), zb_ra t0 hra hX s (t + 1) h (by omega)]
    unfold zn
    rw [hra t h ht]
theorem zcd_ra {ru am : Nat → Int} {ra ra' : Nat → Nat → Int} {cp : Int} {B B' N N' : Nat → Nat → Int} {t h : Nat} (hra : ∀ i j, t ≤ i → ra i j = ra' i j) (hB : ∀ j, B (t + 1) j = B' (t + 1) j) (hN : ∀ i j, t ≤ i → N i j = N' i j) (dd : Int) : zcd ru am ra cp B N dd t h = zcd ru am ra' cp B' N' dd t h := by
  unfold zcd
  split
  · rw [hB, hB]
    unfold zn
    rw [hra t h (Nat.le_refl _)]
  · split
    · exact zb_ra t hra (fun _ _ _ => rfl) _ t h (Nat.le_refl _)
    · exact zb_ra t hra (fun i j hi => by rw [hN i j hi]) _ t h (Nat.le_refl _)
theorem zbd_ra {ru am : Nat → Int} {ra ra' : Nat → Nat → Int} {cp : Int} {B B' N N' : Nat → Nat → Int} {t h : Nat} (hra : ∀ i j, t ≤ i → ra i j = ra' i j) (hB : ∀ j, B (t + 1) j = B' (t + 1) j) (hN : ∀ i j, t ≤ i → N i j = N' i j) (r : Int) : zbd ru am ra cp B N r t h = zbd ru am ra' cp B' N' r t h := by
  unfold zbd
  rw [zcd_ra hra hB hN, zcd_ra hra hB hN, zcd_ra hra hB hN]
theorem zC_ra {ru am : Nat → Int} {ra ra' : Nat → Nat → Int} {r cp : Int} {N N' : Nat → Nat → Int} (t0 : Nat) (hra : ∀ t h, t0 ≤ t → ra t h = ra' t h) (hN : ∀ t h, t0 ≤ t → N t h = N' t h) : ∀ (k t h : Nat), (t : Int) + k = ru 1 → t0 ≤ t → zC ru am ra none r cp N t h = zC ru am ra' none r cp N' t h := by
  intro k
  induction k with
  | zero => intro t h ht _; rw [zC_end (by omega), zC_end (by omega)]
  | succ k ih =>
    intro t h ht h0
    rw [zC_step (by omega), zC_step (by omega)]
    show zcd ru am ra cp (zC ru am ra none r cp N) N (zbd ru am ra cp (zC ru am ra none r cp N) N r t h) t h = zcd ru am ra' cp (zC ru am ra' none r cp N') N' (zbd ru am ra' cp (zC ru am ra' none r cp N') N' r t h) t h
    have hB : ∀ j, zC ru am ra none r cp N (t + 1) j = zC ru am ra' none r cp N' (t + 1) j := fun j => ih (t + 1) j (by omega) (by omega)
    rw [zbd_ra (fun i j hi => hra i j (by omega)) hB (fun i j hi => hN i j (by omega)) r]
    exact zcd_ra (fun i j hi => hra i j (by omega)) hB (fun i j hi => hN i j (by omega)) _
/-- with a refund left it costs no more -/
theorem zC_r01 {ru am : Nat → Int} {ra : Nat → Nat → Int} {c : Int} (hr : RB ru) (ha : ∀ j, 0 ≤ am j) (hra : ∀ t h, 0 ≤ ra t h) (N N' : Nat → Nat → Int) : ∀ (k t h : Nat), (t : Int) + k = ru 1 → zC ru am ra none 1 c N t h ≤ zC ru am ra none 0 c N' t h := by
  intro k
  induction k with
  | zero => intro t h ht; rw [zC_end (by omega), zC_end (by omega)]; exact Int.le_refl _
  | succ k ih =>
    intro t h ht
    rw [zC_step (by omega), zC_step (by omega)]
    show zcd ru am ra c (zC ru am ra none 1 c N) N (zbd ru am ra c (zC ru am ra none 1 c N) N 1 t h) t h ≤ zcd ru am ra c (zC ru am ra none 0 c N') N' (zbd ru am ra c (zC ru am ra none 0 c N') N' 0 t h) t h
    have hin := zbd_in (ru := ru) (am := am) (ra := ra) (cp := c) (B := zC ru am ra none 0 c N') (N := N') (r := 0) (t := t) (h := h)
    obtain ⟨dd, hdd⟩ : ∃ dd, dd = zbd ru am ra c (zC ru am ra none 0 c N') N' 0 t h := ⟨_, rfl⟩
    rw [← hdd] at hin ⊢
    refine Int.le_trans (zbd_least dd (by unfold okD; omega)) ?_
    unfold zcd
    by_cases e0 : dd = 0
    · rw [if_pos e0, if_pos e0]
      have h1 := ih (t + 1) (h + 1) (by omega)
      have h2 := ih (t + 1) h (by omega)
      exact zn_mono hr (hra t h) (by omega) (by omega)
    · rw [if_neg e0, if_neg e0]
      have e1 : dd = 1 := by omega
      rw [if_pos e1, if_pos e1]
      exact Int.le_refl _
/-- the rates, this node's another -/
def raT (W : Wk) (x : Int) : Nat → Nat → Int := fun i j => if i = W.t ∧ j = W.h then x else W.ra i j
def cpT (ru : Nat → Int) (x : Int) : Int := min 999 (x + ru 12)
/-- new loans' costs, this node's by that rate -/
def nT (ru : Nat → Int) (W : Wk) (x : Int) : Nat → Nat → Nat → Int
  | 0 => zN ru W.am W.ra none 0
  | r + 1 => fun i j => if i = W.t ∧ j = W.h then zC ru W.am (raT W x) none r (cpT ru x) (nT ru W x r) W.t W.h else zN ru W.am W.ra none (r + 1) i j
def nU (ru : Nat → Int) (W : Wk) (x : Int) : Nat → Nat → Int := if ru 10 = 0 then nT ru W x W.r else zN ru W.am W.ra none W.r
def tillP (ru : Nat → Int) (W : Wk) (x : Int) : Bool := decide (zbd ru W.am (raT W x) (W.f 2) (zco ru W.am W.ra none W.r (W.f 2)) (nU ru W x) W.r W.t W.h ≠ 0)
def aTill (ru : Nat → Int) (W : Wk) : Int := if W.f 6 = 1 ∨ ¬ (ru 9 ≤ W.f 0 ∧ W.f 0 + ru 10 < ru 1) then -1 else gst (tillP ru W) 1000
/-- what stands above the division -/
def wgT (ru am : Nat → Int) (cp : Int) (B : Nat → Nat → Int) (t h : Nat) : Int := ru 6 * (zd ru am cp (t + 1) + B (t + 1) (h + 1)) + (100 - ru 6) * (zd ru am cp (t + 1) + B (t + 1) h)
theorem raT_at (W : Wk) (x : Int) : raT W x W.t W.h = x := by unfold raT; rw [if_pos ⟨rfl, rfl⟩]
theorem raT_ne (W : Wk) (x : Int) {i j : Nat} (h : W.t + 1 ≤ i) : raT W x i j = W.ra i j := by unfold raT; rw [if_neg (by omega)]
theorem raT_in {ru : Nat → Int} {W : Wk} (hB : WB ru W) {x : Int} (hx : 0 ≤ x ∧ x ≤ 999) (i j : Nat) : 0 ≤ raT W x i j ∧ raT W x i j ≤ 999 := by
  unfold raT
  split
  · exact hx
  · exact hB.2.2.2.2.2.2.2.2.1 i j
theorem zn_wg (ru am : Nat → Int) (W : Wk) (cp : Int) (B : Nat → Nat → Int) (x : Int) : zn ru (raT W x) W.t W.h (zd ru am cp (W.t + 1) + B (W.t + 1) (W.h + 1)) (zd ru am cp (W.t + 1) + B (W.t + 1) W.h) = wgT ru am cp B W.t W.h * 10 / (1000 + x) := by
  unfold zn wgT
  rw [raT_at]
theorem wgT_le {ru am : Nat → Int} (hr : RB ru) {cp cp' : Int} {B B' : Nat → Nat → Int} {t h : Nat} (hd : zd ru am cp (t + 1) ≤ zd ru am cp' (t + 1)) (h1 : B (t + 1) (h + 1) ≤ B' (t + 1) (h + 1)) (h2 : B (t + 1) h ≤ B' (t + 1) h) : wgT ru am cp B t h ≤ wgT ru am cp' B' t h := by
  unfold RB at hr
  unfold wgT
  have e1 : ru 6 * (zd ru am cp (t + 1) + B (t + 1) (h + 1)) ≤ ru 6 * (zd ru am cp' (t + 1) + B' (t + 1) (h + 1)) := Int.mul_le_mul_of_nonneg_left (by omega) (by omega)
  have e2 : (100 - ru 6) * (zd ru am cp (t + 1) + B (t + 1) h) ≤ (100 - ru 6) * (zd ru am cp' (t + 1) + B' (t + 1) h) := Int.mul_le_mul_of_nonneg_left (by omega) (by omega)
  omega
theorem wgT_in {ru am : Nat → Int} (hr : RB ru) (ha : ∀ j, 0 ≤ am j) {cp : Int} (hc : 0 ≤ cp ∧ cp ≤ 999) {B : Nat → Nat → Int} {t h : Nat} {b : Int} (h1 : 0 ≤ B (t + 1) (h + 1) ∧ B (t + 1) (h + 1) ≤ b) (h2 : 0 ≤ B (t + 1) h ∧ B (t + 1) h ≤ b) : 0 ≤ wgT ru am cp B t h ∧ wgT ru am cp B t h ≤ 100 * (b + 19998) := by
  have h3 := zd_in hr ha hc.1 hc.2 (t + 1)
  unfold RB at hr
  unfold wgT
  have a1 : 0 ≤ ru 6 * (zd ru am cp (t + 1) + B (t + 1) (h + 1)) := Int.mul_nonneg (by omega) (by omega)
  have a2 : 0 ≤ (100 - ru 6) * (zd ru am cp (t + 1) + B (t + 1) h) := Int.mul_nonneg (by omega) (by omega)
  have a3 : ru 6 * (zd ru am cp (t + 1) + B (t + 1) (h + 1)) ≤ ru 6 * (b + 19998) := Int.mul_le_mul_of_nonneg_left (by omega) (by omega)
  have a4 : (100 - ru 6) * (zd ru am cp (t + 1) + B (t + 1) h) ≤ (100 - ru 6) * (b + 19998) := Int.mul_le_mul_of_nonneg_left (by omega) (by omega)
  have a5 : ru 6 * (b + 19998) + (100 - ru 6) * (b + 19998) = 100 * (b + 19998) := by rw [← Int.add_mul]; congr 1; omega
  omega
/-- which deed is not holding: by what each costs -/
theorem zbd_ne {ru am : Nat → Int} {ra : Nat → Nat → Int} {cp : Int} {B N : Nat → Nat → Int} {r : Int} {t h : Nat} (hm : ru 9 ≤ (t : Int) ∧ (t : Int) + ru 10 < ru 1) : zbd ru am ra cp B N r t h ≠ 0 ↔ (zcd ru am ra cp B N 1 t h < zcd ru am ra cp B N 0 t h ∨ (0 < r ∧ zcd ru am ra cp B N 2 t h < zcd ru am ra cp B N 0 t h)) := by
  unfold zbd
  dsimp only
  rw [if_pos hm]
  by_cases q1 : zcd ru am ra cp B N 1 t h < zcd ru am ra cp B N 0 t h
  · rw [if_pos q1]
    split
    · exact ⟨fun _ => Or.inl q1, fun _ => by decide⟩
    · exact ⟨fun _ => Or.inl q1, fun _ => by decide⟩
  · rw [if_neg q1]
    split
    · next q2 => exact ⟨fun _ => Or.inr q2, fun _ => by decide⟩
    · next q2 => exact ⟨fun z => absurd rfl z, fun z => by rcases z with z | z; exact absurd z q1; exact absurd z q2⟩
/-- with notice: by the rows of the year after -/
def wcT (ru : Nat → Int) (W : Wk) : Int := wgT ru W.am (W.f 2) (zb ru W.am W.ra (W.f 2) (fun t _ => zpr ru W.am t) ((ru 10).toNat - 1)) W.t W.h
def wrT (ru : Nat → Int) (W : Wk) : Int := wgT ru W.am (W.f 2) (zb ru W.am W.ra (W.f 2) (fun t h => zpr ru W.am t - zl ru W.am t + ru 13 + zN ru W.am W.ra none W.r t h) ((ru 10).toNat - 1)) W.t W.h
def whT (ru : Nat → Int) (W : Wk) : Int := wgT ru W.am (W.f 2) (zco ru W.am W.ra none W.r (W.f 2)) W.t W.h
theorem tillP_n {ru : Nat → Int} {W : Wk} (h10 : 0 < ru 10) (hm : ru 9 ≤ (W.t : Int) ∧ (W.t : Int) + ru 10 < ru 1) (x : Int) : tillP ru W x = true ↔ (wcT ru W * 10 / (1000 + x) < whT ru W * 10 / (1000 + x) ∨ (0 < (W.r : Int) ∧ wrT ru W * 10 / (1000 + x) < whT ru W * 10 / (1000 + x))) := by
  unfold tillP nU
  rw [if_neg (by omega), decide_eq_true_eq, zbd_ne hm]
  obtain ⟨s, hs⟩ : ∃ s : Nat, (ru 10).toNat = s + 1 := ⟨(ru 10).toNat - 1, by omega⟩
  have e0 : zcd ru W.am (raT W x) (W.f 2) (zco ru W.am W.ra none W.r (W.f 2)) (zN ru W.am W.ra none W.r) 0 W.t W.h = whT ru W * 10 / (1000 + x) := by
    unfold zcd
    rw [if_pos rfl]
    exact zn_wg ru W.am W (W.f 2) _ x
  have gen : ∀ X : Nat → Nat → Int, zb ru W.am (raT W x) (W.f 2) X (s + 1) W.t W.h = wgT ru W.am (W.f 2) (zb ru W.am W.ra (W.f 2) X s) W.t W.h * 10 / (1000 + x) := by
    intro X
    show zn ru (raT W x) W.t W.h (zd ru W.am (W.f 2) (W.t + 1) + zb ru W.am (raT W x) (W.f 2) X s (W.t + 1) (W.h + 1)) (zd ru W.am (W.f 2) (W.t + 1) + zb ru W.am (raT W x) (W.f 2) X s (W.t + 1) W.h) = _
    rw [zb_ra (W.t + 1) (fun t h q => raT_ne W x q) (fun _ _ _ => rfl) s (W.t + 1) (W.h + 1) (Nat.le_refl _), zb_ra (W.t + 1) (fun t h q => raT_ne W x q) (fun _ _ _ => rfl) s (W.t + 1) W.h (Nat.le_refl _)]
    exact zn_wg ru W.am W (W.f 2) (zb ru W.am W.ra (W.f 2) X s) x
  have e1 : zcd ru W.am (raT W x) (W.f 2) (zco ru W.am W.ra none W.r (W.f 2)) (zN ru W.am W.ra none W.r) 1 W.t W.h = wcT ru W * 10 / (1000 + x) := by
    unfold zcd wcT
    rw [if_neg (by decide), if_pos rfl, hs]
    exact gen _
  have e2 : zcd ru W.am (raT W x) (W.f 2) (zco ru W.am W.ra none W.r (W.f 2)) (zN ru W.am W.ra none W.r) 2 W.t W.h = wrT ru W * 10 / (1000 + x) := by
    unfold zcd wrT
    rw [if_neg (by decide), if_neg (by decide), hs]
    exact gen _
  rw [e0, e1, e2]
/-- a new loan held, by that rate, k refunds left -/
def wfT (ru : Nat → Int) (W : Wk) (k : Nat) (x : Int) : Int := wgT ru W.am (cpT ru x) (zC ru W.am W.ra none k (cpT ru x) (zN ru W.am W.ra none k)) W.t W.h
theorem nT_ne {ru : Nat → Int} {W : Wk} {x : Int} (r : Nat) {i j : Nat} (h : ¬ (i = W.t ∧ j = W.h)) : nT ru W x r i j = zN ru W.am W.ra none r i j := by
  cases r with
  | zero => rfl
  | succ r => show (if i = W.t ∧ j = W.h then _ else _) = _; rw [if_neg h]
/-- a new loan's cost: held, called, renewed -/
theorem nT_v {ru : Nat → Int} {W : Wk} {x : Int} (h10 : ru 10 = 0) (hm : ru 9 ≤ (W.t : Int) ∧ (W.t : Int) + ru 10 < ru 1) (k : Nat) :
    (nT ru W x (k + 1) W.t W.h ≤ wfT ru W k x * 10 / (1000 + x)) ∧ (nT ru W x (k + 1) W.t W.h = wfT ru W k x * 10 / (1000 + x) ∨ nT ru W x (k + 1) W.t W.h = zpr ru W.am W.t ∨ (0 < k ∧ nT ru W x (k + 1) W.t W.h = zpr ru W.am W.t - zl ru W.am W.t + ru 13 + nT ru W x k W.t W.h)) := by
  have e : nT ru W x (k + 1) W.t W.h = zC ru W.am (raT W x) none k (cpT ru x) (nT ru W x k) W.t W.h := by
    show (if W.t = W.t ∧ W.h = W.h then _ else _) = _
    rw [if_pos ⟨rfl, rfl⟩]
  have hB : ∀ j, zC ru W.am (raT W x) none k (cpT ru x) (nT ru W x k) (W.t + 1) j = zC ru W.am W.ra none k (cpT ru x) (zN ru W.am W.ra none k) (W.t + 1) j := fun j => zC_ra (W.t + 1) (fun t h q => raT_ne W x q) (fun t h q => nT_ne k (by omega)) ((ru 1).toNat - (W.t + 1)) (W.t + 1) j (by omega) (Nat.le_refl _)
  have c0 : zcd ru W.am (raT W x) (cpT ru x) (zC ru W.am (raT W x) none k (cpT ru x) (nT ru W x k)) (nT ru W x k) 0 W.t W.h = wfT ru W k x * 10 / (1000 + x) := by
    unfold zcd
    rw [if_pos rfl, hB, hB]
    exact zn_wg ru W.am W (cpT ru x) (zC ru W.am W.ra none k (cpT ru x) (zN ru W.am W.ra none k)) x
  have c1 : zcd ru W.am (raT W x) (cpT ru x) (zC ru W.am (raT W x) none k (cpT ru x) (nT ru W x k)) (nT ru W x k) 1 W.t W.h = zpr ru W.am W.t := by
    unfold zcd
    rw [if_neg (by decide), if_pos rfl, h10]
    rfl
  have c2 : zcd ru W.am (raT W x) (cpT ru x) (zC ru W.am (raT W x) none k (cpT ru x) (nT ru W x k)) (nT ru W x k) 2 W.t W.h = zpr ru W.am W.t - zl ru W.am W.t + ru 13 + nT ru W x k W.t W.h := by
    unfold zcd
    rw [if_neg (by decide), if_neg (by decide), h10]
    rfl
  rw [e, zC_step (by omega)]
  show zcd ru W.am (raT W x) (cpT ru x) (zC ru W.am (raT W x) none k (cpT ru x) (nT ru W x k)) (nT ru W x k) (zbd ru W.am (raT W x) (cpT ru x) (zC ru W.am (raT W x) none k (cpT ru x) (nT ru W x k)) (nT ru W x k) k W.t W.h) W.t W.h ≤ _ ∧ (zcd ru W.am (raT W x) (cpT ru x) (zC ru W.am (raT W x) none k (cpT ru x) (nT ru W x k)) (nT ru W x k) (zbd ru W.am (raT W x) (cpT ru x) (zC ru W.am (raT W x) none k (cpT ru x) (nT ru W x k)) (nT ru W x k) k W.t W.h) W.t W.h = _ ∨ zcd ru W.am (raT W x) (cpT ru x) (zC ru W.am (raT W x) none k (cpT ru x) (nT ru W x k)) (nT ru W x k) (zbd ru W.am (raT W x) (cpT ru x) (zC ru W.am (raT W x) none k (cpT ru x) (nT ru W x k)) (nT ru W x k) k W.t W.h) W.t W.h = _ ∨ (0 < k ∧ zcd ru W.am (raT W x) (cpT ru x) (zC ru W.am (raT W x) none k (cpT ru x) (nT ru W x k)) (nT ru W x k) (zbd ru W.am (raT W x) (cpT ru x) (zC ru W.am (raT W x) none k (cpT ru x) (nT ru W x k)) (nT ru W x k) k W.t W.h) W.t W.h = _))
  refine ⟨by rw [← c0]; exact zbd_least 0 (Or.inl rfl), ?_⟩
  have hin := zbd_in (ru := ru) (am := W.am) (ra := raT W x) (cp := cpT ru x) (B := zC ru W.am (raT W x) none k (cpT ru x) (nT ru W x k)) (N := nT ru W x k) (r := k) (t := W.t) (h := W.h)
  rcases hin with q | ⟨_, q | ⟨q, q2⟩⟩
  · rw [q]; exact Or.inl c0
  · rw [q]; exact Or.inr (Or.inl c1)
  · rw [q]; exact Or.inr (Or.inr ⟨by omega, c2⟩)
theorem tillP_0 {ru : Nat → Int} {W : Wk} (hr : RB ru) (hB : WB ru W) (r2 : W.r ≤ 2) (h10 : ru 10 = 0) (hm : ru 9 ≤ (W.t : Int) ∧ (W.t : Int) + ru 10 < ru 1) {x : Int} (hx : 0 ≤ x ∧ x ≤ 999) : tillP ru W x = true ↔ (zpr ru W.am W.t < whT ru W * 10 / (1000 + x) ∨ (0 < W.r ∧ zpr ru W.am W.t - zl ru W.am W.t + ru 13 + wfT ru W (W.r - 1) x * 10 / (1000 + x) < whT ru W * 10 / (1000 + x))) := by
  have ham : ∀ j, 0 ≤ W.am j := fun j => (hB.2.2.2.2.2.2.2.1 j).1
  have hpr := zpr_in hr ham W.t
  have hr' := hr
  unfold RB at hr'
  unfold tillP nU
  rw [if_pos h10, decide_eq_true_eq, zbd_ne hm]
  have e0 : zcd ru W.am (raT W x) (W.f 2) (zco ru W.am W.ra none W.r (W.f 2)) (nT ru W x W.r) 0 W.t W.h = whT ru W * 10 / (1000 + x) := by
    unfold zcd
    rw [if_pos rfl]
    exact zn_wg ru W.am W (W.f 2) _ x
  have e1 : zcd ru W.am (raT W x) (W.f 2) (zco ru W.am W.ra none W.r (W.f 2)) (nT ru W x W.r) 1 W.t W.h = zpr ru W.am W.t := by
    unfold zcd
    rw [if_neg (by decide), if_pos rfl, h10]
    rfl
  have e2 : zcd ru W.am (raT W x) (W.f 2) (zco ru W.am W.ra none W.r (W.f 2)) (nT ru W x W.r) 2 W.t W.h = zpr ru W.am W.t - zl ru W.am W.t + ru 13 + nT ru W x W.r W.t W.h := by
    unfold zcd
    rw [if_neg (by decide), if_neg (by decide), h10]
    rfl
  rw [e0, e1, e2]
  -- a new loan with one refund left is held no dearer than with none
  have h01 : wfT ru W 1 x * 10 / (1000 + x) ≤ wfT ru W 0 x * 10 / (1000 + x) := by
    have a := zC_r01 (c := cpT ru x) hr ham (fun t h => (hB.2.2.2.2.2.2.2.2.1 t h).1) (zN ru W.am W.ra none 1) (zN ru W.am W.ra none 0)
    have : wfT ru W 1 x ≤ wfT ru W 0 x := wgT_le hr (Int.le_refl _) (a ((ru 1).toNat - (W.t + 1)) (W.t + 1) (W.h + 1) (by omega)) (a ((ru 1).toNat - (W.t + 1)) (W.t + 1) W.h (by omega))
    exact Int.ediv_le_ediv (by omega) (by omega)
  generalize whT ru W * 10 / (1000 + x) = Hd
  have v1 : (nT ru W x 1 W.t W.h ≤ wfT ru W 0 x * 10 / (1000 + x)) ∧ (nT ru W x 1 W.t W.h = wfT ru W 0 x * 10 / (1000 + x) ∨ nT ru W x 1 W.t W.h = zpr ru W.am W.t ∨ (0 < 0 ∧ nT ru W x 1 W.t W.h = zpr ru W.am W.t - zl ru W.am W.t + ru 13 + nT ru W x 0 W.t W.h)) := nT_v (x := x) h10 hm 0
  have v2 : (nT ru W x 2 W.t W.h ≤ wfT ru W 1 x * 10 / (1000 + x)) ∧ (nT ru W x 2 W.t W.h = wfT ru W 1 x * 10 / (1000 + x) ∨ nT ru W x 2 W.t W.h = zpr ru W.am W.t ∨ (0 < 1 ∧ nT ru W x 2 W.t W.h = zpr ru W.am W.t - zl ru W.am W.t + ru 13 + nT ru W x 1 W.t W.h)) := nT_v (x := x) h10 hm 1
  constructor
  · rintro (q | ⟨q0, q⟩)
    · exact Or.inl q
    · have h12 : W.r = 1 ∨ W.r = 2 := by omega
      rcases h12 with e | e
      · rw [e] at q ⊢
        have v1 := v1.2
        rcases v1 with v | v | v
        · exact Or.inr ⟨by omega, by show _ + wfT ru W 0 x * 10 / (1000 + x) < Hd; rw [← v]; exact q⟩
        · exact Or.inl (by omega)
        · omega
      · rw [e] at q ⊢
        have v2 := v2.2
        have v1 := v1.2
        rcases v2 with v | v | ⟨_, v⟩
        · exact Or.inr ⟨by omega, by show _ + wfT ru W 1 x * 10 / (1000 + x) < Hd; rw [← v]; exact q⟩
        · exact Or.inl (by omega)
        · rcases v1 with w | w | w
          · exact Or.inr ⟨by omega, by show _ + wfT ru W 1 x * 10 / (1000 + x) < Hd; omega⟩
          · exact Or.inl (by omega)
          · omega
  · rintro (q | ⟨q0, q⟩)
    · exact Or.inl q
    · refine Or.inr ⟨by omega, ?_⟩
      obtain ⟨k, hk⟩ : ∃ k, W.r = k + 1 := ⟨W.r - 1, by omega⟩
      rw [hk] at q ⊢
      have := (nT_v (x := x) h10 hm k).1
      rw [show k + 1 - 1 = k by omega] at q
      omega
/-- without the cuts -/
def tillU (ru : Nat → Int) (W : Wk) (x : Int) : Bool := decide (zpr ru W.am W.t * (1000 + x) < whT ru W * 10 ∨ (0 < W.r ∧ (zpr ru W.am W.t - zl ru W.am W.t + ru 13) * (1000 + x) + wfT ru W (W.r - 1) x * 10 < whT ru W * 10))
theorem cut_un {a b c d : Int} (hd : 0 < d) (h : a + b / d < c / d) : a * d + b < c := by
  have h1 : b < (b / d + 1) * d := by
    have := Int.lt_ediv_add_one_mul_self b hd
    exact this
  have h2 : c / d * d ≤ c := Int.ediv_mul_le c (by omega)
  have h3 : (a + b / d + 1) * d ≤ c / d * d := Int.mul_le_mul_of_nonneg_right (by omega) (by omega)
  have h4 : (a + b / d + 1) * d = a * d + (b / d + 1) * d := by rw [← Int.add_mul]; congr 1; omega
  omega
theorem cut_un0 {a c d : Int} (hd : 0 < d) (h : a < c / d) : a * d < c := by
  have h2 : c / d * d ≤ c := Int.ediv_mul_le c (by omega)
  have h3 : (a + 1) * d ≤ c / d * d := Int.mul_le_mul_of_nonneg_right (by omega) (by omega)
  have h4 : (a + 1) * d = a * d + d := by rw [Int.add_mul, Int.one_mul]
  omega
theorem tillP_U {ru : Nat → Int} {W : Wk} (hr : RB ru) (hB : WB ru W) (r2 : W.r ≤ 2) (h10 : ru 10 = 0) (hm : ru 9 ≤ (W.t : Int) ∧ (W.t : Int) + ru 10 < ru 1) {x : Int} (hx : 0 ≤ x ∧ x ≤ 999) (h : tillP ru W x = true) : tillU ru W x = true := by
  unfold tillU
  rw [decide_eq_true_eq]
  rcases (tillP_0 hr hB r2 h10 hm hx).1 h with q | ⟨q0, q⟩
  · exact Or.inl (cut_un0 (by omega) q)
  · exact Or.inr ⟨q0, cut_un (by omega) q⟩
theorem tillU_mono {ru : Nat → Int} {W : Wk} (hr : RB ru) (hB : WB ru W) (ht : (W.t : Int) < ru 1) {x y : Int} (hx : 0 ≤ x) (hxy : x ≤ y) (hy : y ≤ 999) (h : tillU ru W y = true) : tillU ru W x = true := by
  have ham : ∀ j, 0 ≤ W.am j := fun j => (hB.2.2.2.2.2.2.2.1 j).1
  have hpr := zpr_in hr ham W.t
  have hl := zl_in hr ham W.t
  have hr' := hr
  unfold RB at hr'
  unfold tillU at h ⊢
  rw [decide_eq_true_eq] at h ⊢
  rcases h with q | ⟨q0, q⟩
  · refine Or.inl ?_
    have : zpr ru W.am W.t * (1000 + x) ≤ zpr ru W.am W.t * (1000 + y) := Int.mul_le_mul_of_nonneg_left (by omega) (by omega)
    omega
  · refine Or.inr ⟨q0, ?_⟩
    have e1 : (zpr ru W.am W.t - zl ru W.am W.t + ru 13) * (1000 + x) ≤ (zpr ru W.am W.t - zl ru W.am W.t + ru 13) * (1000 + y) := Int.mul_le_mul_of_nonneg_left (by omega) (by omega)
    have hc : cpT ru x ≤ cpT ru y := by unfold cpT; omega
    have e2 : wfT ru W (W.r - 1) x ≤ wfT ru W (W.r - 1) y := by
      have a := zC_mono hr ham (fun t h => (hB.2.2.2.2.2.2.2.2.1 t h).1) hc ((W.r - 1 : Nat) : Int) (zN ru W.am W.ra none (W.r - 1)) ((ru 1).toNat - (W.t + 1))
      exact wgT_le hr (zd_mono hr ham hc _) (a (W.t + 1) (W.h + 1) (by omega)) (a (W.t + 1) W.h (by omega))
    omega
theorem gst_sub {p u : Int → Bool} (n : Nat) (h : ∀ x : Int, 0 ≤ x → x < n → p x = true → u x = true) : gst p n = gst p ((gst u n).toNat + if gst u n = -1 then 0 else 1) := by
  have gu := gst_in u n
  have gp := gst_in p n
  have hle : gst p n ≤ gst u n := by
    by_cases q : gst p n ≤ gst u n
    · exact q
    · have ok := h _ (by omega) gp.2 (gst_ok p n (by omega))
      have no := gst_no u n (gst p n) (by omega) gp.2
      rw [no] at ok
      exact absurd ok (by decide)
  have key : ∀ (m k : Nat), n = k + m → gst p n < k → gst p n = gst p k := by
    intro m
    induction m with
    | zero => intro k hk _; rw [hk]; rfl
    | succ m ih =>
      intro k hk hlt
      rw [ih (k + 1) (by omega) (by omega)]
      show (if p k then (k : Int) else gst p k) = _
      by_cases q : p k = true
      · exfalso
        have := gst_no p n k (by omega) (by omega)
        rw [this] at q
        exact absurd q (by decide)
      · rw [if_neg q]
  by_cases e : gst u n = -1
  · rw [if_pos e, e]
    exact key n 0 (by omega) (by omega)
  · rw [if_neg e]
    exact key (n - ((gst u n).toNat + 1)) ((gst u n).toNat + 1) (by omega) (by omega)
