-- what nodes cost, level by level
theorem zcd_congr {ru am : Nat → Int} {ra : Nat → Nat → Int} {cp : Int} {B B' N : Nat → Nat → Int} {t h : Nat} (h1 : B (t + 1) (h + 1) = B' (t + 1) (h + 1)) (h2 : B (t + 1) h = B' (t + 1) h) (dd : Int) : zcd ru am ra cp B N dd t h = zcd ru am ra cp B' N dd t h := by
  unfold zcd
  rw [h1, h2]
theorem zbd_congr {ru am : Nat → Int} {ra : Nat → Nat → Int} {cp : Int} {B B' N : Nat → Nat → Int} {t h : Nat} (h1 : B (t + 1) (h + 1) = B' (t + 1) (h + 1)) (h2 : B (t + 1) h = B' (t + 1) h) (r : Int) : zbd ru am ra cp B N r t h = zbd ru am ra cp B' N r t h := by
  unfold zbd
  rw [zcd_congr h1 h2, zcd_congr h1 h2, zcd_congr h1 h2]
/-- the policy's deed, as far as it may be -/
def zpd (ru : Nat → Int) (de : Nat → Nat → Int) (r : Int) (t h : Nat) : Int := if de t h = 0 ∨ ((ru 9 ≤ t ∧ (t : Int) + ru 10 < ru 1) ∧ (de t h = 1 ∨ 0 < r)) then de t h else 0
/-- the deed by which a node goes: the best, or the policy's -/
def zdd (ru am : Nat → Int) (ra : Nat → Nat → Int) (pol : Option (Nat → Nat → Int)) (cp : Int) (B N : Nat → Nat → Int) (r : Int) (t h : Nat) : Int := match pol with
  | none => zbd ru am ra cp B N r t h
  | some de => zpd ru de r t h
/-- what a node costs, k years ahead of the end -/
def zck (ru am : Nat → Int) (ra : Nat → Nat → Int) (pol : Option (Nat → Nat → Int)) (r : Int) (cp : Int) (N : Nat → Nat → Int) : Nat → Nat → Nat → Int
  | 0, _, _ => 0
  | k + 1, t, h => zcd ru am ra cp (fun t' h' => zck ru am ra pol r cp N k t' h') N (zdd ru am ra pol cp (fun t' h' => zck ru am ra pol r cp N k t' h') N r t h) t h
def zC (ru am : Nat → Int) (ra : Nat → Nat → Int) (pol : Option (Nat → Nat → Int)) (r : Int) (cp : Int) (N : Nat → Nat → Int) (t h : Nat) : Int := zck ru am ra pol r cp N ((ru 1).toNat - t) t h
theorem zdd_congr {ru am : Nat → Int} {ra : Nat → Nat → Int} {pol : Option (Nat → Nat → Int)} {cp : Int} {B B' N : Nat → Nat → Int} {t h : Nat} (h1 : B (t + 1) (h + 1) = B' (t + 1) (h + 1)) (h2 : B (t + 1) h = B' (t + 1) h) (r : Int) : zdd ru am ra pol cp B N r t h = zdd ru am ra pol cp B' N r t h := by
  cases pol with
  | none => exact zbd_congr h1 h2 r
  | some de => rfl
theorem zC_step {ru am : Nat → Int} {ra : Nat → Nat → Int} {pol : Option (Nat → Nat → Int)} {r cp : Int} {N : Nat → Nat → Int} {t h : Nat} (ht : (t : Int) < ru 1) : zC ru am ra pol r cp N t h = zcd ru am ra cp (zC ru am ra pol r cp N) N (zdd ru am ra pol cp (zC ru am ra pol r cp N) N r t h) t h := by
  have e : (ru 1).toNat - t = ((ru 1).toNat - (t + 1)) + 1 := by omega
  conv => lhs; unfold zC; rw [e]; unfold zck
  rw [zdd_congr (B := fun t' h' => zck ru am ra pol r cp N ((ru 1).toNat - (t + 1)) t' h') (B' := zC ru am ra pol r cp N) rfl rfl]
  exact zcd_congr rfl rfl _
theorem zC_end {ru am : Nat → Int} {ra : Nat → Nat → Int} {pol : Option (Nat → Nat → Int)} {r cp : Int} {N : Nat → Nat → Int} {t h : Nat} (ht : (t : Int) = ru 1) : zC ru am ra pol r cp N t h = 0 := by
  unfold zC
  rw [show (ru 1).toNat - t = 0 by omega]
  rfl
def zcp (ru : Nat → Int) (ra : Nat → Nat → Int) (t h : Nat) : Int := min 999 (ra t h + ru 12)
/-- a new loan's costs at the node where it begins, by refunds left before -/
def zN (ru am : Nat → Int) (ra : Nat → Nat → Int) (pol : Option (Nat → Nat → Int)) : Nat → Nat → Nat → Int
  | 0 => fun _ _ => 0
  | r + 1 => fun t h => zC ru am ra pol r (zcp ru ra t h) (zN ru am ra pol r) t h
/-- what a node costs by a coupon and refunds left -/
def zco (ru am : Nat → Int) (ra : Nat → Nat → Int) (pol : Option (Nat → Nat → Int)) (r : Nat) (cp : Int) (t h : Nat) : Int := zC ru am ra pol r cp (zN ru am ra pol r) t h
theorem zpd_in {ru : Nat → Int} {de : Nat → Nat → Int} {r : Int} {t h : Nat} (hd : 0 ≤ de t h ∧ de t h ≤ 2) : zpd ru de r t h = 0 ∨ (ru 9 ≤ t ∧ (t : Int) + ru 10 < ru 1) ∧ (zpd ru de r t h = 1 ∨ zpd ru de r t h = 2 ∧ 0 < r) := by
  unfold zpd
  split <;> omega
theorem zbd_in {ru am : Nat → Int} {ra : Nat → Nat → Int} {cp : Int} {B N : Nat → Nat → Int} {r : Int} {t h : Nat} : zbd ru am ra cp B N r t h = 0 ∨ (ru 9 ≤ t ∧ (t : Int) + ru 10 < ru 1) ∧ (zbd ru am ra cp B N r t h = 1 ∨ zbd ru am ra cp B N r t h = 2 ∧ 0 < r) := by
  unfold zbd
  dsimp only
  split
  · split
    · split
      · next h1 h2 h3 => exact Or.inr ⟨h1, Or.inr ⟨rfl, h3.1⟩⟩
      · next h1 h2 h3 => exact Or.inr ⟨h1, Or.inl rfl⟩
    · split
      · next h1 h2 h3 => exact Or.inr ⟨h1, Or.inr ⟨rfl, h3.1⟩⟩
      · exact Or.inl rfl
  · exact Or.inl rfl
theorem zdd_in {ru am : Nat → Int} {ra : Nat → Nat → Int} {pol : Option (Nat → Nat → Int)} {cp : Int} {B N : Nat → Nat → Int} {r : Int} {t h : Nat} (hd : ∀ de, pol = some de → 0 ≤ de t h ∧ de t h ≤ 2) : zdd ru am ra pol cp B N r t h = 0 ∨ (ru 9 ≤ t ∧ (t : Int) + ru 10 < ru 1) ∧ (zdd ru am ra pol cp B N r t h = 1 ∨ zdd ru am ra pol cp B N r t h = 2 ∧ 0 < r) := by
  cases pol with
  | none => exact zbd_in
  | some de => exact zpd_in (hd de rfl)
/-- the costs' bounds -/
theorem zcd_lt {ru am : Nat → Int} {ra : Nat → Nat → Int} {cp : Int} {B N : Nat → Nat → Int} {dd r : Int} {t h : Nat} {b n : Int} (hr : RB ru) (ha : ∀ j, 0 ≤ am j) (hra : ∀ t h : Nat, (t : Int) < ru 1 → h ≤ t → 0 ≤ ra t h) (hc : 0 ≤ cp ∧ cp ≤ 999) (ht : (t : Int) < ru 1) (hh : h ≤ t) (hB1 : 0 ≤ B (t + 1) (h + 1) ∧ B (t + 1) (h + 1) ≤ b) (hB2 : 0 ≤ B (t + 1) h ∧ B (t + 1) h ≤ b) (hN : 0 < r → ∀ t h : Nat, (t : Int) < ru 1 → h ≤ t → 0 ≤ N t h ∧ N t h ≤ n) (hn : 0 ≤ n) (hb : 61000 + n ≤ b) (hm : dd = 0 ∨ (ru 9 ≤ t ∧ (t : Int) + ru 10 < ru 1) ∧ (dd = 1 ∨ dd = 2 ∧ 0 < r)) : 0 ≤ zcd ru am ra cp B N dd t h ∧ zcd ru am ra cp B N dd t h ≤ b + 20000 := by
  have hr' := hr
  unfold RB at hr'
  have hnn : ((ru 10).toNat : Int) = ru 10 := Int.toNat_of_nonneg (by omega)
  unfold zcd
  split
  · have h3 := zd_in hr ha hc.1 hc.2 (t + 1)
    have := zn_in hr (hra t h ht hh) (a := zd ru am cp (t + 1) + B (t + 1) (h + 1)) (b := zd ru am cp (t + 1) + B (t + 1) h) (B := b + 20000) (by omega) (by omega) (by omega) (by omega)
    omega
  · split
    · have := zb_in (X := fun t _ => zpr ru am t) (A := 20000) hr ha hra hc (ru 10).toNat t h (by omega) hh (fun h' _ _ => by have h1 := zl_in hr ha (t + (ru 10).toNat); have h2 := zpr_in hr ha (t + (ru 10).toNat); omega)
      omega
    · have := zb_in (X := fun t h => zpr ru am t - zl ru am t + ru 13 + N t h) (A := 20999 + n) hr ha hra hc (ru 10).toNat t h (by omega) hh (fun h' q1 q2 => by
        have h1 := zl_in hr ha (t + (ru 10).toNat)
        have h2 := zpr_in hr ha (t + (ru 10).toNat)
        have h3 := hN (by omega) (t + (ru 10).toNat) h' (by push_cast; omega) (by omega)
        omega)
      omega
theorem zC_in {ru am : Nat → Int} {ra : Nat → Nat → Int} {pol : Option (Nat → Nat → Int)} {r cp : Int} {N : Nat → Nat → Int} {n : Int} (hr : RB ru) (ha : ∀ j, 0 ≤ am j) (hra : ∀ t h : Nat, (t : Int) < ru 1 → h ≤ t → 0 ≤ ra t h) (hp : ∀ de, pol = some de → ∀ t h : Nat, (t : Int) < ru 1 → h ≤ t → 0 ≤ de t h ∧ de t h ≤ 2) (hc : 0 ≤ cp ∧ cp ≤ 999) (hN : 0 < r → ∀ t h : Nat, (t : Int) < ru 1 → h ≤ t → 0 ≤ N t h ∧ N t h ≤ n) (hn : 0 ≤ n) : ∀ (k t h : Nat), (t : Int) + k = ru 1 → h ≤ t → 0 ≤ zC ru am ra pol r cp N t h ∧ zC ru am ra pol r cp N t h ≤ 61000 + n + k * 20000
  | 0, t, h, ht, hh => by
    rw [zC_end (by omega)]
    omega
  | k + 1, t, h, ht, hh => by
    have h1 := zC_in hr ha hra hp hc hN hn k (t + 1) (h + 1) (by push_cast at ht ⊢; omega) (by omega)
    have h2 := zC_in hr ha hra hp hc hN hn k (t + 1) h (by push_cast at ht ⊢; omega) (by omega)
    push_cast at ht
    rw [zC_step (by omega)]
    have h3 := zcd_lt (B := zC ru am ra pol r cp N) (b := 61000 + n + k * 20000) hr ha hra hc (by omega) hh h1 h2 hN hn (by omega) (zdd_in (pol := pol) (cp := cp) (B := zC ru am ra pol r cp N) (N := N) (am := am) (ra := ra) (r := r) (fun de q => hp de q t h (by omega) hh))
    push_cast
    omega
theorem zcp_in {ru : Nat → Int} {ra : Nat → Nat → Int} {t h : Nat} (hr : RB ru) (hra : 0 ≤ ra t h) : 0 ≤ zcp ru ra t h ∧ zcp ru ra t h ≤ 999 := by
  unfold RB at hr
  unfold zcp
  omega
theorem zN_in {ru am : Nat → Int} {ra : Nat → Nat → Int} {pol : Option (Nat → Nat → Int)} (hr : RB ru) (ha : ∀ j, 0 ≤ am j) (hra : ∀ t h : Nat, (t : Int) < ru 1 → h ≤ t → 0 ≤ ra t h) (hp : ∀ de, pol = some de → ∀ t h : Nat, (t : Int) < ru 1 → h ≤ t → 0 ≤ de t h ∧ de t h ≤ 2) : ∀ (r t h : Nat), (t : Int) < ru 1 → h ≤ t → 0 ≤ zN ru am ra pol r t h ∧ zN ru am ra pol r t h ≤ r * 310000
  | 0, t, h, _, _ => by simp [zN]
  | r + 1, t, h, ht, hh => by
    have h12 : ru 1 ≤ 12 := by unfold RB at hr; omega
    have := zC_in (pol := pol) (r := r) (cp := zcp ru ra t h) (N := zN ru am ra pol r) (n := r * 310000) hr ha hra hp (zcp_in hr (hra t h ht hh)) (fun _ t h q1 q2 => zN_in hr ha hra hp r t h q1 q2) (by omega) ((ru 1).toNat - t) t h (by omega) hh
    simp only [zN]
    push_cast
    omega
theorem zco_in {ru am : Nat → Int} {ra : Nat → Nat → Int} {pol : Option (Nat → Nat → Int)} (hr : RB ru) (ha : ∀ j, 0 ≤ am j) (hra : ∀ t h : Nat, (t : Int) < ru 1 → h ≤ t → 0 ≤ ra t h) (hp : ∀ de, pol = some de → ∀ t h : Nat, (t : Int) < ru 1 → h ≤ t → 0 ≤ de t h ∧ de t h ≤ 2) {cp : Int} (hc : 0 ≤ cp ∧ cp ≤ 999) (r t h : Nat) (ht : (t : Int) ≤ ru 1) (hh : h ≤ t) : 0 ≤ zco ru am ra pol r cp t h ∧ zco ru am ra pol r cp t h ≤ (r + 1) * 310000 := by
  have h12 : ru 1 ≤ 12 := by unfold RB at hr; omega
  have := zC_in (pol := pol) (r := r) (cp := cp) (N := zN ru am ra pol r) (n := r * 310000) hr ha hra hp hc (fun _ t h q1 q2 => zN_in hr ha hra hp r t h q1 q2) (by omega) ((ru 1).toNat - t) t h (by omega) hh
  unfold zco
  omega
theorem ix4_inj {r b t h r' b' t' h' : Nat} (hb : b < 145) (hb' : b' < 145) (ht : t < 12) (hh : h < 12) (ht' : t' < 12) (hh' : h' < 12) (e : ix4 r b t h = ix4 r' b' t' h') : r = r' ∧ b = b' ∧ t = t' ∧ h = h' := by
  unfold ix4 at e
  omega
