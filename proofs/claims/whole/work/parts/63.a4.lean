-- best, policy, adopting
theorem uI_id {σ : Mm} {a k : Nat} {v : Int32} (h : σ.1 a k = v) : uI σ a k v = σ := by
  refine Prod.ext (funext fun b => ?_) rfl
  by_cases e : b = a
  · subst e
    funext j
    by_cases z : j = k
    · subst z
      rw [uI_at, h]
    · rw [uI_ne (Or.inr z)]
  · exact uI_n e
def rowN (g : Nat → Nat) : Nat → Nat
  | 0 => 0
  | n + 1 => rowN g n + g n
def allN (g : Nat → Nat → Nat) : Nat → Nat
  | 0 => 0
  | T + 1 => allN g T + rowN (g T) (T + 1)
theorem rowN_zero {g : Nat → Nat} : ∀ n, (∀ h, h < n → g h = 0) → rowN g n = 0
  | 0, _ => rfl
  | n + 1, H => by
    show rowN g n + g n = 0
    rw [rowN_zero n (fun h hh => H h (by omega)), H n (by omega)]
theorem allN_zero {g : Nat → Nat → Nat} : ∀ T, (∀ t h, t < T → h ≤ t → g t h = 0) → allN g T = 0
  | 0, _ => rfl
  | T + 1, H => by
    show allN g T + rowN (g T) (T + 1) = 0
    rw [allN_zero T (fun t h q1 q2 => H t h (by omega) q2), rowN_zero (T + 1) (fun h hh => H T h (by omega) (by omega))]
theorem rowN_le {g : Nat → Nat} (hg : ∀ h, g h ≤ 1) : ∀ n, rowN g n ≤ n
  | 0 => Nat.le_refl _
  | n + 1 => by
    show rowN g n + g n ≤ n + 1
    have := rowN_le hg n
    have := hg n
    omega
theorem allN_le {g : Nat → Nat → Nat} (hg : ∀ t h, g t h ≤ 1) : ∀ T, T ≤ 12 → allN g T ≤ T * 13
  | 0, _ => Nat.le_refl _
  | T + 1, h => by
    show allN g T + rowN (g T) (T + 1) ≤ _
    have := allN_le hg T (by omega)
    have := rowN_le (hg T) (T + 1)
    omega
theorem rowN_0 {g : Nat → Nat} : ∀ n, rowN g n = 0 → ∀ h, h < n → g h = 0
  | 0, _, h, hh => by omega
  | n + 1, H, h, hh => by
    have H : rowN g n + g n = 0 := H
    by_cases e : h = n
    · subst e; omega
    · exact rowN_0 n (by omega) h (by omega)
theorem allN_0 {g : Nat → Nat → Nat} : ∀ T, allN g T = 0 → ∀ t h, t < T → h ≤ t → g t h = 0
  | 0, _, t, h, q, _ => by omega
  | T + 1, H, t, h, q1, q2 => by
    have H : allN g T + rowN (g T) (T + 1) = 0 := H
    by_cases e : t = T
    · subst e
      exact rowN_0 (t + 1) (by omega) h (by omega)
    · exact allN_0 T (by omega) t h (by omega) q2
def Wk.r (W : Wk) : Nat := (W.f 3).toNat
def wBest (ru : Nat → Int) (W : Wk) (t h : Nat) : Int := zbd ru W.am W.ra (W.f 2) (zco ru W.am W.ra none W.r (W.f 2)) (zN ru W.am W.ra none W.r) W.r t h
def wPol (ru : Nat → Int) (W : Wk) (t h : Nat) : Int := zpd ru W.de W.r t h
abbrev wC (ru : Nat → Int) (W : Wk) (t h : Nat) : Prop := W.f 0 ≤ t ∧ (t : Int) < ru 1 ∧ W.f 1 ≤ h ∧ (h : Int) - W.f 1 ≤ t - W.f 0 ∧ h ≤ t
def wDif (ru : Nat → Int) (W : Wk) (t h : Nat) : Nat := if wC ru W t h ∧ W.de t h ≠ wBest ru W t h then 1 else 0
def wN (ru : Nat → Int) (W : Wk) : Nat := allN (wDif ru W) (ru 1).toNat
def Wk.deeds (W : Wk) (D : Nat → Nat → Int) : Wk := (W.1, W.2.1, W.2.2.1, D)
def wAdopt (ru : Nat → Int) (W : Wk) : Wk := W.deeds (fun t h => if wC ru W t h then wBest ru W t h else W.de t h)
theorem wAdopt_id {ru : Nat → Int} {W : Wk} (h : wN ru W = 0) : wAdopt ru W = W := by
  have e : (fun t h => if wC ru W t h then wBest ru W t h else W.de t h) = W.de := by
    funext t k
    by_cases hc : wC ru W t k
    · rw [if_pos hc]
      have hc' := hc
      unfold wC at hc'
      have := allN_0 _ h t k (by omega) (by omega)
      unfold wDif at this
      by_cases z : W.de t k = wBest ru W t k
      · exact z.symm
      · rw [if_pos ⟨hc, z⟩] at this
        cases this
    · rw [if_neg hc]
  unfold wAdopt Wk.deeds
  rw [e]
  rfl
theorem wDif_le (ru : Nat → Int) (W : Wk) (t h : Nat) : wDif ru W t h ≤ 1 := by unfold wDif; split <;> omega
theorem wBest_in (ru : Nat → Int) (W : Wk) (t h : Nat) : 0 ≤ wBest ru W t h ∧ wBest ru W t h ≤ 2 := by
  have := zbd_in (ru := ru) (am := W.am) (ra := W.ra) (cp := W.f 2) (B := zco ru W.am W.ra none W.r (W.f 2)) (N := zN ru W.am W.ra none W.r) (r := W.r) (t := t) (h := h)
  unfold wBest
  omega
/-- what an act may change of the reference -/
def FD9 (w : Nat) (σ τ : Mm) : Prop := (∀ a, a ∉ [98, 112, 113, 114] → a ≠ w → τ.1 a = σ.1 a) ∧ (∀ a, a ∉ [112, 113, 114, 117] → τ.2 a = σ.2 a) ∧ (∀ k, k ≠ 33 → k ≠ 34 → τ.1 98 k = σ.1 98 k) ∧ (∀ k, 313 ≤ k → τ.1 w k = σ.1 w k)
theorem FD9.rf {w : Nat} {σ : Mm} : FD9 w σ σ := ⟨fun _ _ _ => rfl, fun _ _ => rfl, fun _ _ _ => rfl, fun _ _ => rfl⟩
theorem FD9.tr {w : Nat} {σ τ ρ : Mm} (h : FD9 w σ τ) (g : FD9 w τ ρ) : FD9 w σ ρ := ⟨fun a h1 h2 => (g.1 a h1 h2).trans (h.1 a h1 h2), fun a h1 => (g.2.1 a h1).trans (h.2.1 a h1), fun k h1 h2 => (g.2.2.1 k h1 h2).trans (h.2.2.1 k h1 h2), fun k hk => (g.2.2.2 k hk).trans (h.2.2.2 k hk)⟩
theorem Fz.d {w : Nat} {σ τ : Mm} (h : Fz w σ τ) : FD9 w σ τ := ⟨fun a h1 h2 => h.1 a (fun q => h1 (by rw [q]; simp)) h2, fun a _ => by rw [h.2.1], fun k h1 _ => h.2.2.1 k h1, fun k hk => h.2.2.2 k (by omega)⟩
theorem FD9.put {w : Nat} {σ τ : Mm} {k : Nat} {v : Int32} (h : FD9 w σ τ) (hw : w ≠ 98) (hk : k = 33 ∨ k = 34) : FD9 w σ (uI τ 98 k v) := ⟨fun a h1 h2 => by rw [uI_n (fun q => h1 (by rw [q]; simp))]; exact h.1 a h1 h2, h.2.1, fun j h1 h2 => by rw [uI_ne (Or.inr (by omega))]; exact h.2.2.1 j h1 h2, fun j hj => by rw [uI_n hw]; exact h.2.2.2 j hj⟩
theorem FD9.row {w : Nat} {σ τ : Mm} {k : Nat} {v : Int32} (h : FD9 w σ τ) (hw : w ≠ 98) (hk : k < 313 := by omega) : FD9 w σ (uI τ w k v) := ⟨fun a h1 h2 => by rw [uI_n h2]; exact h.1 a h1 h2, h.2.1, fun j h1 h2 => by rw [uI_n (Ne.symm hw)]; exact h.2.2.1 j h1 h2, fun j hj => by rw [uI_ne (Or.inr (by omega))]; exact h.2.2.2 j hj⟩
section MD
variable {l : Launch} {G : GT} {d : Nat} {σ : Mm} {Q : Po} {ru : Nat → Int} {w : Nat} {W : Wk}
theorem TB.up {T r b t0 t1 : Nat} {B : Nat → Nat → Int} (h : TB σ T ru r b t0 B) (ht : t0 ≤ t1) : TB σ T ru r b t1 B := fun t k q1 q2 q3 => h t k (by omega) q2 q3
theorem c_laysW {T : Nat} {f c z : Int32} (pol : Option (Nat → Nat → Int)) (hpol : pol = none ∨ pol = some W.de) (hw : Wr w) (hE : ME σ ru) (hM : Mr σ ru w W) (hs : σ.1 98 27 = 0) (hB : WB ru W) (hT : lenJ T = 62640) (ef : f = if pol.isSome = true then 1 else 0)
    (hq : ∀ τ : Mm, (∀ a, a ∉ [112, 113, 114] → τ.1 a = σ.1 a) → (∀ a, a ∉ [112, 113, 114] → a ≠ T → τ.2 a = σ.2 a) → LY τ ru W.am → (∀ r, r ≤ W.r → TB τ T ru r 0 0 (zco ru W.am W.ra pol r (W.f 2))) → (∀ r, r ≤ W.r → TN τ T ru r (zN ru W.am W.ra pol r)) → Q none τ)
    (ec : c = jI (W.f 2) := by first | rfl | assumption | (simp only [jlit, jneg, jadd, jsub, jmul]; done) | (simp only [jlit, jneg, jadd, jsub, jmul]; congr 1 <;> omega) | (congr 1 <;> omega)) (ez : z = jI (W.f 3) := by first | rfl | assumption | (simp only [jlit, jneg, jadd, jsub, jmul]; done) | (simp only [jlit, jneg, jadd, jsub, jmul]; congr 1 <;> omega) | (congr 1 <;> omega)) : MW l G (d + 9) mX12_lays [.ref 98, .ref w, .ref T, .int f, .int c, .int z] σ Q := by
  obtain ⟨b1, bc, b3, b4, b6, b7, b8, bam, bra, bde⟩ := hB
  have hr3 : ((W.r : Nat) : Int) = W.f 3 := Int.toNat_of_nonneg b3.1
  obtain ⟨n98, n101, n112, n113, n114⟩ := hw.ne
  refine c_lays pol (W.f 2) W.r (hM.PM hE hw hs) (by simp; omega) (fun j => (bam j).1) (fun j hj => ⟨hM.2.1 j hj, (bam j).2⟩) hT (by omega) bc (fun de e t h q1 q2 => ?_) ef hq ec (by rw [ez, hr3])
  rcases hpol with q | q
  · rw [q] at e; cases e
  · rw [q] at e; cases e
    exact ⟨hM.2.2.2 t h q1 q2, bde t h⟩
theorem c_bestHere (t h : Nat) (hw : Wr w) (hE : ME σ ru) (hM : Mr σ ru w W) (hs : σ.1 98 27 = 0) (hB : WB ru W) (h0 : W.f 0 = t) (h1 : W.f 1 = h) (ht : (t : Int) < ru 1) (hh : h ≤ t) (hq : ∀ τ, (∀ a, a ∉ [112, 113, 114] → τ.1 a = σ.1 a) → (∀ a, a ∉ [112, 113, 114, 117] → τ.2 a = σ.2 a) → LY τ ru W.am → Q (some (.int (jI (wBest ru W t h)))) τ) : MW l G (d + 10) mX12_bestHere [.ref 98, .ref w] σ Q := by
  have hl := hw.len
  have hr := hE.1
  obtain ⟨n98, n101, n112, n113, n114⟩ := hw.ne
  have hr3 : ((W.r : Nat) : Int) = W.f 3 := Int.toNat_of_nonneg hB.2.2.1.1
  have hM0 : Mr (uI σ 98 27 0) ru w W := by rw [uI_id hs]; exact hM
  have hE0 : ME (uI σ 98 27 0) ru := by rw [uI_id hs]; exact hE
  have hs0 : (uI σ 98 27 0).1 98 27 = 0 := by rw [uI_id hs]; exact hs
  refine vX12_bestHere [] 60 ?_
  refine ldI (lenI w) 2 (hM0.1 2 (by omega)) ?_
  refine ldI (lenI w) 3 (hM0.1 3 (by omega)) ?_
  refine c_laysW none (Or.inl rfl) hw hE0 hM0 hs0 hB (by decide) rfl (fun τ e1 e2 e3 e4 e5 => ?_)
  rw [uI_id hs] at e1 e2
  have ew : τ.1 w = σ.1 w := e1 w (by simp; omega)
  have hM2 : Mr τ ru w W := hM.fr (fun k _ => by rw [ew]) hr
  have hE2 : ME τ ru := hE.fr (e1 101 (by decide))
  have hs2 : τ.1 98 27 = 0 := by rw [e1 98 (by decide)]; exact hs
  refine ldI (lenI w) 3 (hM2.1 3 (by omega)) ?_
  refine ldI (lenI w) 2 (hM2.1 2 (by omega)) ?_
  refine ldI (lenI w) 0 (hM2.1 0 (by omega)) ?_
  refine ldI (lenI w) 1 (hM2.1 1 (by omega)) ?_
  refine c_bestDeed W.r 0 t h (W.f 2) _ _ (hM2.PM hE2 hw hs2) e3 (by decide) (by have := hB.2.2.1; omega) (by omega) ht hh hB.2.1 ((e4 W.r (Nat.le_refl _)).up (by omega)) (e5 W.r (Nat.le_refl _)) ?_ (by rw [hr3]) rfl rfl (by rw [h0]) (by rw [h1])
  exact hq τ e1 (fun a ha => e2 a (fun q => ha (by simp at q ⊢; omega)) (fun q => ha (by rw [q]; simp))) e3
theorem c_doesBest {x : Int32} (t h : Nat) (dd : Int) (hw : Wr w) (hE : ME σ ru) (hM : Mr σ ru w W) (hs : σ.1 98 27 = 0) (hL : LY σ ru W.am) (hB : WB ru W) (h0 : W.f 0 = t) (h1 : W.f 1 = h) (ht : (t : Int) < ru 1) (hh : h ≤ t) (hdd : 0 ≤ dd ∧ dd ≤ 2)
    (hq1 : (W.f 4 ≠ 0 ∨ dd = 0) → Q (some (.int (jI 2))) σ) (hq : ¬ (W.f 4 ≠ 0 ∨ dd = 0) → ∀ τ, FD9 w σ τ → τ.1 98 33 = jI dd → τ.1 98 34 = jI (dd + 1) → Mr τ ru w (wGive ru W dd) → Q (some (.int (jI (-1)))) τ) (ex : x = jI dd := by first | rfl | assumption | (simp only [jlit, jneg, jadd, jsub, jmul]; done) | (simp only [jlit, jneg, jadd, jsub, jmul]; congr 1 <;> omega) | (congr 1 <;> omega)) : MW l G (d + 5) mX12_doesBest [.ref 98, .ref w, .int x] σ Q := by
  have hl := hw.len
  have hr := hE.1
  obtain ⟨n98, n101, n112, n113, n114⟩ := hw.ne
  have b4 := hB.2.2.2.1
  refine vX12_doesBest [] 60 ?_
  refine ldI (lenI w) 4 (hM.1 4 (by omega)) ?_
  refine breq (W.f 4) 0 (fun z => ?_) (fun z => ?_)
  · refine breq dd 0 (fun z2 => ?_) (fun z2 => ?_) ex
    · exact hq1 (Or.inr z2)
    · refine c_givesNotice t h dd hw hE hM hs hL h0 h1 ht hh hdd (fun τ g1 g2 g3 => ?_) ex
      refine hq (by omega) _ ((g1.d.put n98 (Or.inl rfl)).put n98 (Or.inr rfl)) (by rw [uI_ne (Or.inr (by decide)), uI_at]; exact ex) (by rw [uI_at, ex]; first | rfl | assumption | (simp only [jlit, jneg, jadd, jsub, jmul]; done) | (simp only [jlit, jneg, jadd, jsub, jmul]; congr 1 <;> omega) | (congr 1 <;> omega)) (g3.fr (fun k _ => by rw [uI_n n98, uI_n n98]) hr)
  · exact hq1 (Or.inl z)
end MD
