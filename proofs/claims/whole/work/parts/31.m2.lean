-- the reference: what a node costs
def ix4 (r b t h : Nat) : Nat := (145 * r + b) * 144 + (12 * t + h)
abbrev B30 (z : Int) : Prop := 0 ≤ z ∧ z ≤ 1073741824
/-- what a deed costs: behind B the same loan's costs, N a new loan's -/
def zcd (ru am : Nat → Int) (ra : Nat → Nat → Int) (cp : Int) (B N : Nat → Nat → Int) (dd : Int) (t h : Nat) : Int :=
  if dd = 0 then zn ru ra t h (zd ru am cp (t + 1) + B (t + 1) (h + 1)) (zd ru am cp (t + 1) + B (t + 1) h)
  else if dd = 1 then zb ru am ra cp (fun t _ => zpr ru am t) (ru 10).toNat t h
  else zb ru am ra cp (fun t h => zpr ru am t - zl ru am t + ru 13 + N t h) (ru 10).toNat t h
def zmy (ru : Nat → Int) (dd r : Int) (t : Nat) : Prop := dd = 0 ∨ (zme ru t ∧ (dd = 1 ∨ 0 < r))
/-- BEST -/
def zbd (ru am : Nat → Int) (ra : Nat → Nat → Int) (cp : Int) (B N : Nat → Nat → Int) (r : Int) (t h : Nat) : Int :=
  let c0 := zcd ru am ra cp B N 0 t h
  let c1 := zcd ru am ra cp B N 1 t h
  let c2 := zcd ru am ra cp B N 2 t h
  if ru 9 ≤ t ∧ (t : Int) + ru 10 < ru 1 then
    (if c1 < c0 then (if 0 < r ∧ c2 < c1 then 2 else 1) else (if 0 < r ∧ c2 < c0 then 2 else 0))
  else 0
def TB (σ : Mm) (T : Nat) (ru : Nat → Int) (r b t0 : Nat) (B : Nat → Nat → Int) : Prop := ∀ t h : Nat, t0 ≤ t → (t : Int) ≤ ru 1 → h ≤ t → ((t : Int) < ru 1 → σ.2 T (ix4 r b t h) = jL (B t h)) ∧ ((t : Int) = ru 1 → B t h = 0) ∧ B30 (B t h)
def TN (σ : Mm) (T : Nat) (ru : Nat → Int) (r : Nat) (N : Nat → Nat → Int) : Prop := 0 < r → ∀ t h : Nat, (t : Int) < ru 1 → h ≤ t → σ.2 T (ix4 (r - 1) (12 * t + h + 1) t h) = jL (N t h) ∧ B30 (N t h)
theorem zb_in {ru am : Nat → Int} {ra : Nat → Nat → Int} {cp : Int} {X : Nat → Nat → Int} {A : Int} (hr : RB ru) (ha : ∀ j, 0 ≤ am j) (hra : ∀ t h : Nat, (t : Int) < ru 1 → h ≤ t → 0 ≤ ra t h) (hc : 0 ≤ cp ∧ cp ≤ 999) : ∀ (s t h : Nat), (t : Int) + s < ru 1 → h ≤ t → (∀ h', h ≤ h' → h' ≤ h + s → 0 ≤ X (t + s) h' ∧ X (t + s) h' ≤ A) → 0 ≤ zb ru am ra cp X s t h ∧ zb ru am ra cp X s t h ≤ A + s * 20000
  | 0, t, h, _, _, hX => by
    have := hX h (Nat.le_refl _) (Nat.le_refl _)
    simp only [zb]
    simpa using this
  | s + 1, t, h, ht, hh, hX => by
    have e : t + 1 + s = t + (s + 1) := by omega
    have h1 := zb_in hr ha hra hc s (t + 1) (h + 1) (by omega) (by omega) (fun h' q1 q2 => by rw [e]; exact hX h' (by omega) (by omega))
    have h2 := zb_in hr ha hra hc s (t + 1) h (by omega) (by omega) (fun h' q1 q2 => by rw [e]; exact hX h' (by omega) (by omega))
    have h3 := zd_in hr ha hc.1 hc.2 (t + 1)
    simp only [zb]
    have h4 := zn_in hr (hra t h (by omega) hh) (a := zd ru am cp (t + 1) + zb ru am ra cp X s (t + 1) (h + 1)) (b := zd ru am cp (t + 1) + zb ru am ra cp X s (t + 1) h) (B := 19998 + (A + s * 20000)) (by omega) (by omega) (by omega) (by omega)
    push_cast
    omega
section ML2
variable {l : Launch} {G : GT} {d : Nat} {σ : Mm} {Q : Po} {ru am : Nat → Int} {ra : Nat → Nat → Int} {w T : Nat}
theorem c_behind {x y z u : Int32} (r b t h : Nat) (v : Int) (hr : RB ru) (hru : ∀ k, k < 14 → σ.1 101 k = jI (ru k)) (hT : lenJ T = 62640) (hr2 : r ≤ 2) (hb : b ≤ 144) (ht : (t : Int) ≤ ru 1) (hh : h ≤ t) (hv1 : (t : Int) < ru 1 → σ.2 T (ix4 r b t h) = jL v) (hv2 : (t : Int) = ru 1 → v = 0) (hq : Q (some (.long (jL v))) σ) (ex : x = jI r := by first | rfl | assumption | (simp only [jlit, jneg, jadd, jsub, jmul]; done) | (simp only [jlit, jneg, jadd, jsub, jmul]; congr 1 <;> omega) | (congr 1 <;> omega)) (ey : y = jI b := by first | rfl | assumption | (simp only [jlit, jneg, jadd, jsub, jmul]; done) | (simp only [jlit, jneg, jadd, jsub, jmul]; congr 1 <;> omega) | (congr 1 <;> omega)) (ez : z = jI t := by first | rfl | assumption | (simp only [jlit, jneg, jadd, jsub, jmul]; done) | (simp only [jlit, jneg, jadd, jsub, jmul]; congr 1 <;> omega) | (congr 1 <;> omega)) (eu : u = jI h := by first | rfl | assumption | (simp only [jlit, jneg, jadd, jsub, jmul]; done) | (simp only [jlit, jneg, jadd, jsub, jmul]; congr 1 <;> omega) | (congr 1 <;> omega)) : MW l G (d + 2) mX12_behind [.ref 98, .ref T, .int x, .int y, .int z, .int u] σ Q := by
  unfold RB at hr
  refine vX12_behind [] 60 ?_
  refine ldI 14 1 (hru 1 (by omega)) ?_
  refine breq t (ru 1) (fun h1 => ?_) (fun h1 => ?_) ez
  · rw [hv2 h1] at hq
    exact hq
  · have hv := hv1 (by omega)
    refine c_cell r b t h ?_ ex ey ez eu
    refine ldL (lenJ T) (ix4 r b t h) hv hq (by unfold ix4; omega) ?_
    unfold ix4
    congr 1 <;> omega
theorem c_held {x y c z u : Int32} (r b t h : Nat) (cp : Int) (B : Nat → Nat → Int) (hP : PM σ w ru ra) (hL : LY σ ru am) (hT : lenJ T = 62640) (hr2 : r ≤ 2) (hb : b ≤ 144) (ht : (t : Int) < ru 1) (hh : h ≤ t) (hc : 0 ≤ cp ∧ cp ≤ 999) (hB : TB σ T ru r b (t + 1) B) (hq : Q (some (.long (jL (zn ru ra t h (zd ru am cp (t + 1) + B (t + 1) (h + 1)) (zd ru am cp (t + 1) + B (t + 1) h))))) σ) (ex : x = jI r := by first | rfl | assumption | (simp only [jlit, jneg, jadd, jsub, jmul]; done) | (simp only [jlit, jneg, jadd, jsub, jmul]; congr 1 <;> omega) | (congr 1 <;> omega)) (ey : y = jI b := by first | rfl | assumption | (simp only [jlit, jneg, jadd, jsub, jmul]; done) | (simp only [jlit, jneg, jadd, jsub, jmul]; congr 1 <;> omega) | (congr 1 <;> omega)) (ec : c = jI cp := by first | rfl | assumption | (simp only [jlit, jneg, jadd, jsub, jmul]; done) | (simp only [jlit, jneg, jadd, jsub, jmul]; congr 1 <;> omega) | (congr 1 <;> omega)) (ez : z = jI t := by first | rfl | assumption | (simp only [jlit, jneg, jadd, jsub, jmul]; done) | (simp only [jlit, jneg, jadd, jsub, jmul]; congr 1 <;> omega) | (congr 1 <;> omega)) (eu : u = jI h := by first | rfl | assumption | (simp only [jlit, jneg, jadd, jsub, jmul]; done) | (simp only [jlit, jneg, jadd, jsub, jmul]; congr 1 <;> omega) | (congr 1 <;> omega)) : MW l G (d + 3) mX12_held [.ref 98, .ref w, .ref T, .int x, .int y, .int c, .int z, .int u] σ Q := by
  have hr := hP.1
  have h3 := zd_in hr hL.1 hc.1 hc.2 (t + 1)
  obtain ⟨b1, b2, b3⟩ := hB (t + 1) (h + 1) (Nat.le_refl _) (by push_cast; omega) (by omega)
  obtain ⟨d1, d2, d3⟩ := hB (t + 1) h (Nat.le_refl _) (by push_cast; omega) (by omega)
  subst ez; subst eu
  refine vX12_held [] 80 ?_
  refine c_due cp (t + 1) hr hL (by omega) (by push_cast; omega) hc ?_ ec
  refine c_behind r b (t + 1) (h + 1) (B (t + 1) (h + 1)) hr hP.2.2.1 hT hr2 hb (by push_cast; omega) (by omega) b1 b2 ?_ ex ey
  refine c_behind r b (t + 1) h (B (t + 1) h) hr hP.2.2.1 hT hr2 hb (by push_cast; omega) (by omega) d1 d2 ?_ ex ey
  have e : (jI (zd ru am cp (t + 1))).toInt64 = jL (zd ru am cp (t + 1)) := jI_L (by omega)
  refine c_next t h (zd ru am cp (t + 1) + B (t + 1) (h + 1)) (zd ru am cp (t + 1) + B (t + 1) h) hP ht hh (by omega) (by omega) hq (eu := by rw [e, jLadd]) (ev := by rw [e, jLadd])
theorem c_paid {x c f : Int32} (N : Nat → Nat → Int) (r : Nat) (cp : Int) (cl : Bool) (hP : PM σ w ru ra) (hL : LY σ ru am) (hT : lenJ T = 62640) (hr2 : r ≤ 2) (hc : 0 ≤ cp ∧ cp ≤ 999) (hN : TN σ T ru r N) (hcl : cl = false → 0 < r) (ex : x = jI r) (ec : c = jI cp) (ef : f = if cl = true then 1 else 0) : ∀ (s t h d : Nat) (z u v : Int32) (Q : Po), (t : Int) + s < ru 1 → h ≤ t → Q (some (.long (jL (zb ru am ra cp (fun t h => if cl = true then zpr ru am t else zpr ru am t - zl ru am t + ru 13 + N t h) s t h)))) σ → z = jI s → u = jI t → v = jI h → MW l G (d + s + 3) mX12_paid [.ref 98, .ref w, .ref T, .int x, .int c, .int f, .int z, .int u, .int v] σ Q := by
  have hr := hP.1
  have hr' := hr
  unfold RB at hr'
  intro s
  induction s with
  | zero =>
    intro t h d z u v Q ht hh hq ez eu ev
    simp only [zb] at hq
    refine vX12_paid [] 80 ?_
    refine breq 0 0 (fun h1 => ?_) (fun h1 => absurd rfl h1) ez rfl
    have hl := zl_in hr hL.1 t
    have hp := zpr_in hr hL.1 t
    cases cl with
    | true =>
      subst ef
      refine And.intro (fun q => absurd q (by decide)) (fun _ => ?_)
      refine ldI 13 t (hL.2 t (by omega)).2.2 ?_ (hi := eu)
      rw [if_pos rfl, ← jI_L (by omega)] at hq
      exact hq
    | false =>
      subst ef
      refine And.intro (fun _ => ?_) (fun q => absurd rfl q)
      obtain ⟨n1, n2⟩ := hN (hcl rfl) t h (by omega) hh
      refine ldI 13 t (hL.2 t (by omega)).2.2 ?_ (hi := eu)
      refine ldI 13 t (hL.2 t (by omega)).1 ?_ (hi := eu)
      refine ldI 14 13 (hP.2.2.1 13 (by omega)) ?_
      refine c_node t h ?_ eu ev
      have hr0 := hcl rfl
      refine c_cell ((r - 1 : Nat) : Int) ((12 * t + h + 1 : Nat) : Int) t h ?_ (by rw [ex]; first | rfl | assumption | (simp only [jlit, jneg, jadd, jsub, jmul]; done) | (simp only [jlit, jneg, jadd, jsub, jmul]; congr 1 <;> omega) | (congr 1 <;> omega)) (by first | rfl | assumption | (simp only [jlit, jneg, jadd, jsub, jmul]; done) | (simp only [jlit, jneg, jadd, jsub, jmul]; congr 1 <;> omega) | (congr 1 <;> omega)) eu ev
      refine ldL (lenJ T) (ix4 (r - 1) (12 * t + h + 1) t h) n1 ?_ (by unfold ix4; omega) (by unfold ix4; congr 1 <;> push_cast <;> omega)
      rw [if_neg (by decide)] at hq
      have e : (jI (zpr ru am t) - jI (zl ru am t) + jI (ru 13)).toInt64 + jL (N t h) = jL (zpr ru am t - zl ru am t + ru 13 + N t h) := by
        rw [jsub, jadd, jI_L (by omega), jLadd]
      show Q (some (.long ((jI (zpr ru am t) - jI (zl ru am t) + jI (ru 13)).toInt64 + jL (N t h)))) σ
      rw [e]
      exact hq
  | succ s ih =>
    intro t h d z u v Q ht hh hq ez eu ev
    simp only [zb] at hq
    have hX : ∀ h', h ≤ h' → h' ≤ h + (s + 1) → 0 ≤ (fun t h => if cl = true then zpr ru am t else zpr ru am t - zl ru am t + ru 13 + N t h) (t + (s + 1)) h' ∧ (fun t h => if cl = true then zpr ru am t else zpr ru am t - zl ru am t + ru 13 + N t h) (t + (s + 1)) h' ≤ 1074000000 := by
      intro h' q1 q2
      have hl := zl_in hr hL.1 (t + (s + 1))
      have hp := zpr_in hr hL.1 (t + (s + 1))
      cases cl with
      | true => simp only [if_pos]; omega
      | false =>
        obtain ⟨n1, n2⟩ := hN (hcl rfl) (t + (s + 1)) h' (by push_cast at ht ⊢; omega) (by omega)
        simp only [Bool.false_eq_true, if_false]
        omega
    have hra : ∀ t h : Nat, (t : Int) < ru 1 → h ≤ t → 0 ≤ ra t h := fun t h q1 q2 => (hP.ra q1 q2).1
    have e : t + 1 + s = t + (s + 1) := by omega
    push_cast at ht
    have k1 := zb_in (X := fun t h => if cl = true then zpr ru am t else zpr ru am t - zl ru am t + ru 13 + N t h) (A := 1074000000) hr hL.1 hra hc s (t + 1) (h + 1) (by push_cast; omega) (by omega) (fun h' q1 q2 => by rw [e]; exact hX h' (by omega) (by omega))
    have k2 := zb_in (X := fun t h => if cl = true then zpr ru am t else zpr ru am t - zl ru am t + ru 13 + N t h) (A := 1074000000) hr hL.1 hra hc s (t + 1) h (by push_cast; omega) (by omega) (fun h' q1 q2 => by rw [e]; exact hX h' (by omega) (by omega))
    have k3 := zd_in hr hL.1 hc.1 hc.2 (t + 1)
    subst eu; subst ev
    have ez' : z = jI ((s : Int) + 1) := by rw [ez]; push_cast; rfl
    subst ez'
    refine vX12_paid [] 80 ?_
    refine breq ((s : Int) + 1) 0 (fun h1 => by omega) (fun h1 => ?_)
    show MW l G (d + s + 3) _ _ _ _
    refine c_due cp (t + 1) hr hL (by omega) (by push_cast; omega) hc ?_ ec
    refine ih (t + 1) (h + 1) d _ _ _ _ (by push_cast; omega) (by omega) ?_ (by first | rfl | assumption | (simp only [jlit, jneg, jadd, jsub, jmul]; done) | (simp only [jlit, jneg, jadd, jsub, jmul]; congr 1 <;> omega) | (congr 1 <;> omega)) (by first | rfl | assumption | (simp only [jlit, jneg, jadd, jsub, jmul]; done) | (simp only [jlit, jneg, jadd, jsub, jmul]; congr 1 <;> omega) | (congr 1 <;> omega)) (by first | rfl | assumption | (simp only [jlit, jneg, jadd, jsub, jmul]; done) | (simp only [jlit, jneg, jadd, jsub, jmul]; congr 1 <;> omega) | (congr 1 <;> omega))
    refine ih (t + 1) h d _ _ _ _ (by push_cast; omega) (by omega) ?_ (by first | rfl | assumption | (simp only [jlit, jneg, jadd, jsub, jmul]; done) | (simp only [jlit, jneg, jadd, jsub, jmul]; congr 1 <;> omega) | (congr 1 <;> omega)) (by first | rfl | assumption | (simp only [jlit, jneg, jadd, jsub, jmul]; done) | (simp only [jlit, jneg, jadd, jsub, jmul]; congr 1 <;> omega) | (congr 1 <;> omega)) rfl
    have e2 : (jI (zd ru am cp (t + 1))).toInt64 = jL (zd ru am cp (t + 1)) := jI_L (by omega)
    show MW l G (d + s + 3) _ _ _ _
    refine c_next t h _ _ hP (by omega) hh ⟨?_, ?_⟩ ⟨?_, ?_⟩ hq (eu := by rw [e2, jLadd]) (ev := by rw [e2, jLadd]) <;> omega
end ML2
