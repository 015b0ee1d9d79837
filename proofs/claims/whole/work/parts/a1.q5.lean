-- clauses, read purely
def bdB (s : Nat) (r : Nat → Int) : Prop := ∀ j, j < szB s → (loB s j).toInt ≤ r j ∧ r j ≤ (hiB s j).toInt
theorem bdB_pl (s : Nat) (hs : s < 4) : bdB s (plB s) := by
  have : s = 0 ∨ s = 1 ∨ s = 2 ∨ s = 3 := by omega
  have d0 : ∀ k : Fin 14, (loB 0 k.val).toInt ≤ plB 0 k.val ∧ plB 0 k.val ≤ (hiB 0 k.val).toInt := by decide
  have d1 : ∀ k : Fin 2, (loB 1 k.val).toInt ≤ plB 1 k.val ∧ plB 1 k.val ≤ (hiB 1 k.val).toInt := by decide
  have d2 : ∀ k : Fin 3, (loB 2 k.val).toInt ≤ plB 2 k.val ∧ plB 2 k.val ≤ (hiB 2 k.val).toInt := by decide
  have d3 : ∀ k : Fin 3, (loB 3 k.val).toInt ≤ plB 3 k.val ∧ plB 3 k.val ≤ (hiB 3 k.val).toInt := by decide
  intro j hj
  rcases this with rfl | rfl | rfl | rfl
  · exact d0 ⟨j, hj⟩
  · exact d1 ⟨j, hj⟩
  · exact d2 ⟨j, hj⟩
  · exact d3 ⟨j, hj⟩
theorem itF_in (T : Tp) (s : Nat) (hs : s < 4) : ∀ m p met r, p ≤ T.n → T.n < p + m → (p ≤ (itF T s m p met r).1 ∧ (itF T s m p met r).1 ≤ T.n) ∧ (-1 ≤ (itF T s m p met r).2.1 ∧ (itF T s m p met r).2.1 ≤ T.n) ∧ ((itF T s m p met r).2.1 = -1 → sk T (itF T s m p met r).1 = (itF T s m p met r).1 ∧ (bdB s r → bdB s (itF T s m p met r).2.2))
  | 0, p, met, r, hp, hm => by omega
  | m + 1, p, met, r, hp, hm => by
    have hk := sk_in hp
    have wi := itW_in s (ch T (sk T p))
    have hend := itW_end s hs
    unfold itF
    by_cases z : itW s (ch T (sk T p)) = -1
    · rw [if_pos z]
      exact ⟨⟨hk.1, hk.2⟩, ⟨show (-1 : Int) ≤ -1 by omega, show (-1 : Int) ≤ T.n by omega⟩, fun _ => ⟨sk_sk T p, fun h => h⟩⟩
    · rw [if_neg z]
      have hpn : sk T p < T.n := by
        by_cases q : sk T p < T.n
        · exact q
        · exfalso
          have hc : ch T (sk T p) = -1 := by unfold ch; rw [if_neg q]
          rw [hc] at z
          exact z hend.1
      have hb := nuE_in (T := T) (p := sk T p + 1) (by omega)
      by_cases sn : seenB met (itW s (ch T (sk T p))).toNat
      · rw [if_pos sn]
        exact ⟨⟨hk.1, hk.2⟩, ⟨show (-1 : Int) ≤ (sk T p : Int) by omega, show (sk T p : Int) ≤ T.n by omega⟩, fun z => absurd (show (sk T p : Int) = -1 from z) (by omega)⟩
      · rw [if_neg sn]
        by_cases nf : (nuE T (sk T p + 1)).2.2 ≠ -1
        · rw [if_pos nf]
          exact ⟨⟨show p ≤ (nuE T (sk T p + 1)).1 by omega, hb.2.1⟩, hb.2.2.2.1, fun z => absurd z nf⟩
        · rw [if_neg nf]
          have nf : (nuE T (sk T p + 1)).2.2 = -1 := by omega
          have hlt := hb.2.2.1 nf
          by_cases nb : (loB s (itW s (ch T (sk T p))).toNat).toInt ≤ (nuE T (sk T p + 1)).2.1 ∧ (nuE T (sk T p + 1)).2.1 ≤ (hiB s (itW s (ch T (sk T p))).toNat).toInt
          · rw [if_neg (fun q => q nb)]
            have ih := itF_in T s hs m (nuE T (sk T p + 1)).1 (metB met (itW s (ch T (sk T p))).toNat) (fun j => if j = (itW s (ch T (sk T p))).toNat then (nuE T (sk T p + 1)).2.1 else r j) hb.2.1 (by omega)
            refine ⟨⟨by omega, ih.1.2⟩, ih.2.1, fun q => ⟨(ih.2.2 q).1, fun h => (ih.2.2 q).2 (fun j hj => ?_)⟩⟩
            by_cases e : j = (itW s (ch T (sk T p))).toNat
            · show (loB s j).toInt ≤ (if j = (itW s (ch T (sk T p))).toNat then (nuE T (sk T p + 1)).2.1 else r j) ∧ (if j = (itW s (ch T (sk T p))).toNat then (nuE T (sk T p + 1)).2.1 else r j) ≤ (hiB s j).toInt
              rw [if_pos e, e]
              exact nb
            · show (loB s j).toInt ≤ (if j = (itW s (ch T (sk T p))).toNat then (nuE T (sk T p + 1)).2.1 else r j) ∧ (if j = (itW s (ch T (sk T p))).toNat then (nuE T (sk T p + 1)).2.1 else r j) ≤ (hiB s j).toInt
              rw [if_neg e]
              exact h j hj
          · rw [if_pos nb]
            exact ⟨⟨show p ≤ (nuE T (sk T p + 1)).1 - 1 by omega, show (nuE T (sk T p + 1)).1 - 1 ≤ T.n by omega⟩, ⟨show (-1 : Int) ≤ ((nuE T (sk T p + 1)).1 : Int) - 1 by omega, show ((nuE T (sk T p + 1)).1 : Int) - 1 ≤ T.n by omega⟩, fun z => absurd (show ((nuE T (sk T p + 1)).1 : Int) - 1 = -1 from z) (by omega)⟩
/-- clauses as they were told: sort, numbers -/
abbrev Pl : Type := List (Nat × (Nat → Int))
def fl (s : Nat) (L : Pl) : Pl := L.filter (fun q => q.1 == s)
theorem fl_app (s : Nat) (L : Pl) (q : Nat × (Nat → Int)) : fl s (L ++ [q]) = if q.1 = s then fl s L ++ [q] else fl s L := by
  unfold fl
  rw [List.filter_append]
  by_cases e : q.1 = s
  · rw [if_pos e]
    congr 1
    simp [e]
  · rw [if_neg e]
    have : List.filter (fun q => q.1 == s) [q] = [] := by simp [e]
    rw [this, List.append_nil]
theorem fl_len (L : Pl) : (∀ q ∈ L, 1 ≤ q.1 ∧ q.1 < 4) → L.length = (fl 1 L).length + (fl 2 L).length + (fl 3 L).length := by
  induction L with
  | nil => intro _; rfl
  | cons q L ih =>
    intro h
    have h1 := h q List.mem_cons_self
    have h2 := ih (fun x hx => h x (List.mem_cons_of_mem _ hx))
    have e : q.1 = 1 ∨ q.1 = 2 ∨ q.1 = 3 := by omega
    have ea : ∀ s, (fl s (q :: L)).length = (fl s L).length + if q.1 = s then 1 else 0 := by
      intro s
      unfold fl
      by_cases k : q.1 = s <;> simp [k]
    rw [ea, ea, ea, List.length_cons, h2]
    rcases e with e | e | e <;> simp [e] <;> omega
theorem fl_no {s : Nat} {L : Pl} (h : ∀ q ∈ L, q.1 ≠ s) : (fl s L).length = 0 := by
  have : fl s L = [] := by
    unfold fl
    rw [List.filter_eq_nil_iff]
    intro q hq
    simp [h q hq]
  rw [this]
  rfl
def kdW (c : Int) : Int := plc (stc 200) (jI c) 4 0
theorem kdW_in (c : Int) : kdW c = -1 ∨ 0 ≤ kdW c ∧ kdW c < 4 := by
  have := plc_in (stc 200) (jI c) 4 0
  unfold kdW
  omega
def limB (s : Nat) : Nat := if s = 0 then 1 else if s = 1 then 12 else if s = 2 then 16 else 24
def cnP (had : Nat) (L : Pl) (s : Nat) : Nat := if s = 0 then had else (fl s L).length
/-- a clause of this sort may come -/
abbrev clOk (b had : Nat) (L : Pl) (k : Int) : Prop := k ≠ -1 ∧ (k = 3 ↔ b = 2) ∧ cnP had L k.toNat < limB k.toNat
def clI (T : Tp) (s p : Nat) (r : Nat → Int) : Nat × Int × (Nat → Int) := itF T s (T.n + 1 - (p + 1)) (p + 1) 0 (if s = 0 then r else plB s)
def plA (s : Nat) (L : Pl) (v : Nat → Int) : Pl := if s = 0 then L else L ++ [(s, v)]
def hdA (s had : Nat) : Nat := if s = 0 then had + 1 else had
/-- the fault (-1 none), the clauses, the rules -/
def clF (T : Tp) (b : Nat) : Nat → Nat → Nat → Pl → (Nat → Int) → Int × Pl × (Nat → Int)
  | 0, p, _, L, r => ((p : Int), L, r)
  | m + 1, p, had, L, r =>
    if ¬ clOk b had L (kdW (ch T (sk T p))) then ((sk T p : Int), L, r)
    else if itG T (clI T (kdW (ch T (sk T p))).toNat (sk T p) r) ≠ -1 then (itG T (clI T (kdW (ch T (sk T p))).toNat (sk T p) r), L, r)
    else if (clI T (kdW (ch T (sk T p))).toNat (sk T p) r).1 < T.n then clF T b m ((clI T (kdW (ch T (sk T p))).toNat (sk T p) r).1 + 1) (hdA (kdW (ch T (sk T p))).toNat had) (plA (kdW (ch T (sk T p))).toNat L (clI T (kdW (ch T (sk T p))).toNat (sk T p) r).2.2) (if (kdW (ch T (sk T p))).toNat = 0 then (clI T (kdW (ch T (sk T p))).toNat (sk T p) r).2.2 else r)
    else (-1, plA (kdW (ch T (sk T p))).toNat L (clI T (kdW (ch T (sk T p))).toNat (sk T p) r).2.2, if (kdW (ch T (sk T p))).toNat = 0 then (clI T (kdW (ch T (sk T p))).toNat (sk T p) r).2.2 else r)
/-- what is told so far is in its bounds -/
def PW (b had : Nat) (L : Pl) (r : Nat → Int) : Prop := (had ≤ 1 ∧ bdB 0 r) ∧ (∀ q ∈ L, (1 ≤ q.1 ∧ q.1 < 4) ∧ (q.1 = 3 ↔ b = 2) ∧ bdB q.1 q.2) ∧ (∀ s, 1 ≤ s → s < 4 → (fl s L).length ≤ limB s)
theorem PW.len {b had : Nat} {L : Pl} {r : Nat → Int} (h : PW b had L r) : L.length ≤ 28 := by
  have e := fl_len L (fun q hq => (h.2.1 q hq).1)
  have l1 := h.2.2 1 (by omega) (by omega)
  have l2 := h.2.2 2 (by omega) (by omega)
  have l3 := h.2.2 3 (by omega) (by omega)
  have e1 : limB 1 = 12 := rfl
  have e2 : limB 2 = 16 := rfl
  have e3 : limB 3 = 24 := rfl
  by_cases q : b = 2
  · have n1 : (fl 1 L).length = 0 := fl_no (fun x hx => by have := (h.2.1 x hx).2.1.2 q; omega)
    have n2 : (fl 2 L).length = 0 := fl_no (fun x hx => by have := (h.2.1 x hx).2.1.2 q; omega)
    omega
  · have n3 : (fl 3 L).length = 0 := fl_no (fun x hx => fun z => q ((h.2.1 x hx).2.1.1 z))
    omega
theorem PW.add {b had s : Nat} {L : Pl} {r v : Nat → Int} (h : PW b had L r) (hs : 1 ≤ s ∧ s < 4) (h3 : s = 3 ↔ b = 2) (hv : bdB s v) (hc : (fl s L).length < limB s) : PW b had (L ++ [(s, v)]) r := by
  refine ⟨h.1, fun q hq => ?_, fun s' h1 h4 => ?_⟩
  · rcases List.mem_append.mp hq with k | k
    · exact h.2.1 q k
    · rw [List.mem_singleton.mp k]
      exact ⟨hs, h3, hv⟩
  · rw [fl_app]
    have := h.2.2 s' h1 h4
    split
    · next e =>
      have e : s = s' := e
      subst e
      rw [List.length_append]
      show (fl s L).length + 1 ≤ _
      omega
    · exact this
theorem PW.lt {b had s : Nat} {L : Pl} {r : Nat → Int} (h : PW b had L r) (hs : 1 ≤ s ∧ s < 4) (h3 : s = 3 ↔ b = 2) (hc : (fl s L).length < limB s) : L.length < 28 := by
  have := (h.add hs h3 (bdB_pl s hs.2) hc).len
  rw [List.length_append] at this
  have e : [(s, plB s)].length = 1 := rfl
  omega
