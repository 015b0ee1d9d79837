-- a constructor's contract, its call
def PcB (G : GT) (av : List Value) (S : List (Nat × Nat)) (n : Nat) : Array Value → State → Prop := va_Pc (av.map (tv G)) (fun U => va_P G.1 vwCl (wBd G S n) U.heap ∧ U.heap.size = G.2.2.2.1 + n ∧ Kx G U)
def QcB (G : GT) (S : List (Nat × Nat)) (n : Nat) : Array Value → State → Outcome → State → Prop := fun _ st oc t => (oc = .returned none ∧ va_P G.1 vwCl (wBd G S n) t.heap ∧ t.heap.size = G.2.2.2.1 + n) ∧ va_F (aX G) st t
def rmB (d mc ms : Nat) : Room := { frames := d, cells := mc, slots := ms, locals := 96 * d }
/-- from the first n cells, places S set, to the first n', places S' set -/
def MB (l : Launch) (G : GT) (d mc ms : Nat) (M : Me) (av : List Value) (S : List (Nat × Nat)) (n : Nat) (S' : List (Nat × Nat)) (n' : Nat) : Prop := Met l M.1 (wsM M) (rmB d mc ms) (PcB G av S n) (QcB G S' n') mc ms (aX G)
theorem blind_PcB (G : GT) (av : List Value) (S : List (Nat × Nat)) (n : Nat) : FrameBlind (PcB G av S n) := fun a U g mk q => ⟨q.1, q.2.1, q.2.2.1, Kx.moved (U := U) (U' := U.calling g mk a) q.2.2.2 (State.WarmedH.refl U) (Nat.le_refl _) (fun _ _ _ => rfl)⟩
section BWc
variable {p : Program} {l : Launch} {e : Env} {R : Room} {s : State} {m : MethodId} {args : Array Value} {below : List Frame} {meth : Method} {c : Code} {H : Heap} {locs : List Loc} {cells slots : Nat} {Q : State → Prop} {G : GT} {S S' : List (Nat × Nat)} {n n' : Nat} {cc : ByteArray} {pc : Nat} {ls : Array Slot}
theorem bw_call {own host : String} {M' : Me} {idx np a d mc ms : Nat} {av rest st : List Value} (hx : p.tables.exec = Jvm.exec) (hb : c.code = cc) (hml : ls.size = c.maxLocals) (hown : s.vm.findClass own = some m.cls) (hts : ∀ w ∈ gW, w.before args s = true) (hKx : Kx G s) (hm : MeC M') (hnp : MeN M' np) (hin : Cond.instanceMethod M'.1 ∈ gW) (hret : M'.2.2.2.1 = none) (hy1 : M'.1.name = "<init>")
    (hk : Cond.methodLink own idx M'.1 ∈ gW ∨ va_Nw (.methodLinkNest own idx M'.1 host) s) (hst : st = av.reverse ++ .ref a :: rest) (hn : av.length = np ∧ catS rest ≤ 24) (hR : d + 1 ≤ R.frames ∧ 95 + 96 * d ≤ R.locals ∧ cells + mc ≤ R.cells ∧ slots + ms ≤ R.slots) (hP : va_P G.1 vwCl (wBd G S n) H) (hz : H.size = G.2.2.2.1 + n) (hS : va_S (aX G) s.heap H locs) (hd : decode cc pc = .ok (.invokespecial idx, 3)) (h : MB l G d mc ms M' (.ref a :: av) S n S' n')
    (k : ∀ H' locs', va_P G.1 vwCl (wBd G S' n') H' → H'.size = G.2.2.2.1 + n' → va_S (aX G) s.heap H' locs' → W p l e R s m args below meth c H' locs' (cells + mc) (slots + ms) Q (F0 m (pc + 3) ls (rest.map (tv G)))) : W p l e R s m args below meth c H locs cells slots Q (F0 m pc ls (st.map (tv G))) := by
  intro T hT X
  have hst' : st.map (tv G) = (av.map (tv G)).reverse ++ .ref (G.2.1 a) :: rest.map (tv G) := by
    rw [hst, List.map_append, List.map_reverse]
    rfl
  have hcode : Cond.code M'.1 M'.2.1 M'.2.2.1 none ∈ gW := by
    have := hm.1
    rw [hret] at this
    exact this
  have hback : Back l R p e below s args M'.1 3 24 (PreOf R mc ms (PcB G (.ref a :: av) S n)) (PostOf (QcB G S' n') mc ms (aX G)) :=
    back_of (bytes := M'.2.1) (maxL := M'.2.2.1) (ret := M'.2.2.2.1) h (blind_PcB G _ S n) rfl rfl hR.1 (by
      have := hm.2.2.2.1
      have := hR.2.1
      show 24 + (M'.2.2.1 + 11) + 96 * d ≤ R.locals
      omega) (pay_in hts (ws_in hm)) List.mem_cons_self (fun a' U hW => word_at hW (gW_good hm.2.1) (hts _ hm.2.1))
  have hpre : ∀ vm1, s.WarmedH vm1 → PreOf R mc ms (PcB G (.ref a :: av) S n) ⟨T.setVm vm1, locs, cells, slots⟩ (Value.ref (G.2.1 a) :: av.map (tv G)).toArray := by
    intro vm1 hW1
    refine ⟨hR.2.2.1, hR.2.2.2, rfl, ?_, ?_, ?_⟩
    · show va_P G.1 vwCl (wBd G S n) T.heap
      rw [hT]; exact hP
    · show T.heap.size = _
      rw [hT]; exact hz
    · refine Kx.moved (U := s) (U' := T.setVm vm1) hKx hW1 ?_ ?_
      · show s.heap.size ≤ T.heap.size
        rw [hT]; exact hS.1
      · intro q h1 h2
        show T.heap[q]? = _
        rw [hT]; exact hS.2.1 q h1 h2
  have hcall : ∃ (v : Option Value) (vm1 : Vm) (B : Pt), s.WarmedH vm1 ∧ Stand p l e R s m args below meth c B.U B.locs B.cells B.slots ∧ PostOf (QcB G S' n') mc ms (aX G) ⟨T.setVm vm1, locs, cells, slots⟩ (Value.ref (G.2.1 a) :: av.map (tv G)).toArray v B ∧
      ∀ target, Steps p.tables e below (B.U.setTop { (F0 m pc ls (st.map (tv G))) with pc := pc + 3, stack := v.toList ++ rest.map (tv G) }) target → Steps p.tables e below (T.setTop (F0 m pc ls (st.map (tv G)))) target := by
    rcases hk with hk | hk
    · exact callI X hx (bytes := M'.2.1) (maxL := M'.2.2.1) hown hy1 (hts _ hk) (hts _ hin) (hts _ hcode) hm.2.2.1 hback (g := F0 m pc ls (st.map (tv G))) rfl hml (a := G.2.1 a) (argsL := av.map (tv G)) (rest := rest.map (tv G)) (len_of hnp (by simp; exact hn.1)) hst' (room24 hn.2) (by rw [hb]; exact hd) hpre
    · exact va_callIN X hx (bytes := M'.2.1) (maxL := M'.2.2.1) hown hy1 (va_Nw.use rfl hk) (hts _ hin) (hts _ hcode) hm.2.2.1 hback (g := F0 m pc ls (st.map (tv G))) rfl hml (a := G.2.1 a) (argsL := av.map (tv G)) (rest := rest.map (tv G)) (len_of hnp (by simp; exact hn.1)) hst' (room24 hn.2) (by rw [hb]; exact hd) hpre
  obtain ⟨v, vm1, ⟨U', l2, c2, s2⟩, hW1, X', ⟨g', mk, t, Lc, e1, e2, hq, h1, hLc, h2, h3⟩, go⟩ := hcall
  dsimp only [Pt.U, Pt.locs, Pt.cells, Pt.slots] at X' e1 e2 h1 h2 h3 go
  subst h1; subst h2; subst h3
  obtain ⟨⟨hv, hP', hz'⟩, hF⟩ := hq
  cases hv
  obtain ⟨t2, a1, b1⟩ := k t.heap (locs ++ Lc) hP' hz' (cal_S hS (st0 := (T.setVm vm1).calling g' mk _) hT hF hLc) U' e1 X'
  exact ⟨t2, go t2 a1, b1⟩
end BWc
