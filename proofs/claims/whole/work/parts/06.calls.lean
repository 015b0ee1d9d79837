-- calls
def catS (st : List Value) : Nat := (st.map fun v => v.category).sum
theorem catS_tv (G : GT) (st : List Value) : ((st.map (tv G)).map fun v => v.category).sum = catS st := by
  unfold catS
  rw [List.map_map]
  congr 1
  apply List.map_congr_left
  intro v _
  exact tv_cat G v
theorem gW_good {w : Cond} (h : w ∈ gW) : (w.onTables && w.keeps) = true ∨ ∃ ty, w = .arrayClass ty := good_of_word (List.mem_filter.mp h).2
/-- what the tables say of a method that is called -/
def MeC (M' : Me) : Prop := Cond.code M'.1 M'.2.1 M'.2.2.1 M'.2.2.2.1 ∈ gW ∧ Cond.initialized M'.1.cls ∈ gW ∧ (M'.1.cls ≠ "java/lang/invoke/MethodHandle" ∧ M'.1.cls ≠ "java/lang/invoke/VarHandle") ∧ M'.2.2.1 ≤ 60 ∧ plainName M'.1.cls = true
def MeN (M' : Me) (n : Nat) : Prop := (parseMethodDescriptor M'.1.desc).map (fun d => d.parameters.length) = some n
def MeS (M' : Me) (n : Nat) : Prop := MeC M' ∧ MeN M' n ∧ Cond.static M'.1 ∈ gW
def MeV (M' : Me) (n ci : Nat) : Prop := MeC M' ∧ MeN M' n ∧ Cond.instanceMethod M'.1 ∈ gW ∧ Cond.selects M'.1.cls M'.1 M'.1 ∈ gW ∧ (vwCl[ci]?).map (fun q => q.1) = some M'.1.cls
theorem ws_in {M' : Me} (h : MeC M') : ∀ w ∈ wsM M', w ∈ gW ∧ ((w.onTables && w.keeps) = true ∨ ∃ ty, w = .arrayClass ty) := by
  intro w hw
  have hm : w ∈ gW := by
    rcases List.mem_cons.mp hw with e | e
    · rw [e]; exact h.1
    · exact e
  exact ⟨hm, gW_good hm⟩
theorem blind_Pcx (G : GT) (av : List Value) (σ : Mm) : FrameBlind (Pcx G av σ) := fun a U g mk q => ⟨q.1, q.2.1, Kx.moved (U := U) (U' := U.calling g mk a) q.2.2 (State.WarmedH.refl U) (Nat.le_refl _) (fun _ _ _ => rfl)⟩
section Cal
variable {M : Me} {pc : Nat}
theorem cal_back {l : Launch} {G : GT} {d : Nat} {M' : Me} {av : List Value} {σ : Mm} {Q' : Po} {p : Program} {e : Env} {s : State} {args : Array Value} {below : List Frame} (hc : MeC M') (hts : ∀ w ∈ gW, w.before args s = true) (h : MW l G d M' av σ Q') : Back l (rmD (d + 1)) p e below s args M'.1 3 24 (PreOf (rmD (d + 1)) 0 0 (Pcx G av σ)) (PostOf (Qcx G Q') 0 0 (aX G)) :=
  back_of (bytes := M'.2.1) (maxL := M'.2.2.1) (ret := M'.2.2.2.1) h (blind_Pcx G av σ) rfl rfl (Nat.le_refl _) (by
    have := hc.2.2.2.1
    show 24 + (M'.2.2.1 + 11) + 96 * d ≤ 96 * (d + 1)
    omega) (pay_in hts (ws_in hc)) List.mem_cons_self (fun a' U hW => word_at hW (gW_good hc.2.1) (hts _ hc.2.1))
theorem cal_pre {l : Launch} {G : GT} {d : Nat} {av : List Value} {σ : Mm} {s : State} {H : Heap} {locs : List Loc} {T : State} (hT : T.heap = H) (hP : va_P G.1 vwCl (wo G σ) H) (hS : va_S (aX G) s.heap H locs) (hKx : Kx G s) (vm1 : Vm) (hW : s.WarmedH vm1) : PreOf (rmD (d + 1)) 0 0 (Pcx G av σ) ⟨T.setVm vm1, locs, 0, 0⟩ (av.map (tv G)).toArray := by
  refine ⟨Nat.le_refl _, Nat.le_refl _, rfl, ?_, ?_⟩
  · show va_P G.1 vwCl (wo G σ) T.heap
    rw [hT]; exact hP
  · refine Kx.moved (U := s) (U' := T.setVm vm1) hKx hW ?_ ?_
    · show s.heap.size ≤ T.heap.size
      rw [hT]; exact hS.1
    · intro q h1 h2
      show T.heap[q]? = _
      rw [hT]; exact hS.2.1 q h1 h2
theorem cal_S {G : GT} {s st0 t : State} {H : Heap} {locs L : List Loc} (hS : va_S (aX G) s.heap H locs) (h0 : st0.heap = H) (hF : va_F (aX G) st0 t) (hL : ∀ q ∈ L, aX G q.base) : va_S (aX G) s.heap t.heap (locs ++ L) := by
  obtain ⟨hz, hk⟩ := hF
  rw [h0] at hz hk
  refine ⟨Nat.le_trans hS.1 hz, fun q h1 h2 => by rw [hk q (Nat.lt_of_lt_of_le h1 hS.1) h2]; exact hS.2.1 q h1 h2, fun q hq => ?_⟩
  rcases List.mem_append.mp hq with h | h
  · exact hS.2.2 q h
  · exact hL q h
theorem room24 {m : MethodId} {ls : Array Slot} {st : List Value} {G : GT} {rest : List Value} (h : catS rest ≤ 24) : 2 * (F0 m pc ls st).monitorRoom + ((rest.map (tv G)).map fun v => v.category).sum ≤ 24 := by
  rw [catS_tv]
  show 2 * 0 + _ ≤ _
  omega
theorem len_of {M' : Me} {n : Nat} (h : MeN M' n) {xs : List Value} (hx : xs.length = n) : ∀ sig, parseMethodDescriptor M'.1.desc = some sig → xs.length = sig.parameters.length := by
  intro sig hs
  unfold MeN at h
  rw [hs] at h
  rw [hx]
  exact (Option.some.inj h).symm
def zt_callS (M' : Me) (n : Nat) : Tr := fun l G d K _ lv st σ => match d with
  | 0 => False
  | d' + 1 => if n ≤ st.length ∧ catS (st.drop n) ≤ 24 then MW l G d' M' (st.take n).reverse σ (fun r σ' => K none lv (r.toList ++ st.drop n) σ') else False
theorem ze_callS {M' : Me} {n idx : Nat} (hd : decode M.2.1 pc = .ok (.invokestatic idx, 3)) (hk : Cond.methodLink M.2.2.2.2 idx M'.1 ∈ gW) (hm : MeS M' n) : Ent M (pc, pc + 3, zt_callS M' n) := by
  intro l G d K Q lv st σ hK hJ h p e s m args below meth c H locs ls C hP hS hl
  obtain ⟨hx, hb, hr, hml, hown, hts, hlocks, hKx⟩ := id C
  unfold zt_callS at h
  dsimp only at h
  cases d with
  | zero => exact h.elim
  | succ d =>
    dsimp only at h
    split at h
    · next hn =>
      intro T hT X
      have hst : st.map (tv G) = (((st.take n).reverse).map (tv G)).reverse ++ (st.drop n).map (tv G) := by
        rw [← List.map_reverse, List.reverse_reverse, ← List.map_append, List.take_append_drop]
      obtain ⟨v, vm1, ⟨U', l2, c2, s2⟩, hW1, X', ⟨g', mk, t, L, e1, e2, hq, h1, hL, h2, h3⟩, go⟩ := callS X hx (bytes := M'.2.1) (maxL := M'.2.2.1) (ret := M'.2.2.2.1) hown (hts _ hk) (hts _ hm.2.2) (hts _ hm.1.2.1) (hts _ hm.1.1) hm.1.2.2.1 (cal_back hm.1 hts h) (g := F0 m pc ls (st.map (tv G))) rfl (hl.1.trans hml.symm) (argsL := (st.take n).reverse.map (tv G)) (rest := (st.drop n).map (tv G)) (len_of hm.2.1 (by simp; omega)) hst (room24 hn.2) (by rw [hb]; exact hd) (fun vm1 hW1 => cal_pre (l := l) hT hP hS hKx vm1 hW1)
      dsimp only [Pt.U, Pt.locs, Pt.cells, Pt.slots] at X' e1 e2 h1 h2 h3 go
      subst h1; subst h2; subst h3
      obtain ⟨⟨r, σ', hv, hQ, hP'⟩, hF⟩ := hq
      cases hv
      have hgo := hK _ _ _ hQ p e s m args below meth c t.heap (locs ++ L) ls C hP' (cal_S hS (st0 := (T.setVm vm1).calling g' mk _) hT hF hL) hl
      obtain ⟨t2, a1, b1⟩ := hgo U' e1 X'
      refine ⟨t2, go t2 ?_, b1⟩
      have he : (r.map (tv G)).toList ++ (st.drop n).map (tv G) = (r.toList ++ st.drop n).map (tv G) := by cases r <;> simp
      rw [he]
      exact a1
    · exact h.elim
def zt_callV (M' : Me) (n cn : Nat) : Tr := fun l G d K _ lv st σ => match d with
  | 0 => False
  | d' + 1 => match st.drop n with
    | .ref a :: rest => if n ≤ st.length ∧ (sh a).1 = cn ∧ catS rest ≤ 24 then MW l G d' M' (.ref a :: (st.take n).reverse) σ (fun r σ' => K none lv (r.toList ++ rest) σ') else False
    | _ => False
theorem ze_callV {M' : Me} {n idx ci cn : Nat} (hd : decode M.2.1 pc = .ok (.invokevirtual idx, 3)) (hk : Cond.methodLink M.2.2.2.2 idx M'.1 ∈ gW) (hm : MeV M' n ci) (hcn : 10 + ci = cn) : Ent M (pc, pc + 3, zt_callV M' n cn) := by
  intro l G d K Q lv st σ hK hJ h p e s m args below meth c H locs ls C hP hS hl
  obtain ⟨hx, hb, hr, hml, hown, hts, hlocks, hKx⟩ := id C
  subst hcn
  unfold zt_callV at h
  dsimp only at h
  cases d with
  | zero => exact h.elim
  | succ d =>
    dsimp only at h
    split at h
    · next a rest hdr =>
      split at h
      · next hn =>
        intro T hT X
        obtain ⟨Q1, Q2⟩ : ∃ q : vw_C, vwCl[ci]? = some q ∧ q.1 = M'.1.cls := by
          have := hm.2.2.2.2
          cases hz : vwCl[ci]? with
          | none => rw [hz] at this; cases this
          | some q => rw [hz] at this; exact ⟨q, rfl, Option.some.inj this⟩
        obtain ⟨cellB, hcB, hoB, hclB⟩ := va_recv hKx.1 hP Q2.1 ((wo_at G σ (sh_obj hn.2.1)).trans (congrArg (fun z => some (G.2.1 a, z)) (cel_O hn.2.1)))
        rw [Q2.2] at hclB
        have hst : st.map (tv G) = (((st.take n).reverse).map (tv G)).reverse ++ .ref (G.2.1 a) :: rest.map (tv G) := by
          rw [← List.map_reverse, List.reverse_reverse]
          have : st.map (tv G) = (st.take n).map (tv G) ++ (st.drop n).map (tv G) := by rw [← List.map_append, List.take_append_drop]
          rw [this, hdr]; rfl
        obtain ⟨v, vm1, ⟨U', l2, c2, s2⟩, hW1, X', ⟨g', mk, t, L, e1, e2, hq, h1, hL, h2, h3⟩, go⟩ := callV X hx (C := M'.1.cls) (bytes := M'.2.1) (maxL := M'.2.2.1) (ret := M'.2.2.2.1) hown (hts _ hk) (hts _ hm.2.2.1) (hts _ hm.2.2.2.1) (hts _ hm.1.1) hm.1.2.2.1 (cal_back hm.1 hts h) (by rw [hT]; exact hcB) hoB hclB (g := F0 m pc ls (st.map (tv G))) rfl (hl.1.trans hml.symm) (argsL := (st.take n).reverse.map (tv G)) (rest := rest.map (tv G)) (len_of hm.2.1 (by simp; omega)) hst (room24 hn.2.2) (by rw [hb]; exact hd) (fun vm1 hW1 => cal_pre (l := l) hT hP hS hKx vm1 hW1)
        dsimp only [Pt.U, Pt.locs, Pt.cells, Pt.slots] at X' e1 e2 h1 h2 h3 go
        subst h1; subst h2; subst h3
        obtain ⟨⟨r, σ', hv, hQ, hP'⟩, hF⟩ := hq
        cases hv
        have hgo := hK _ _ _ hQ p e s m args below meth c t.heap (locs ++ L) ls C hP' (cal_S hS (st0 := (T.setVm vm1).calling g' mk _) hT hF hL) hl
        obtain ⟨t2, a1, b1⟩ := hgo U' e1 X'
        refine ⟨t2, go t2 ?_, b1⟩
        have he : (r.map (tv G)).toList ++ rest.map (tv G) = (r.toList ++ rest).map (tv G) := by cases r <;> simp
        rw [he]
        exact a1
      · exact h.elim
    · exact h.elim
end Cal
