-- the law's own rate: it catches
theorem met_x {l : Launch} {y : MethodName} {ws : List Cond} {rm : Room} {Pc : Array Value → State → Prop} {Qc : Array Value → State → Outcome → State → Prop} {mc ms : Nat} {free : Addr → Prop} (h : vx_Met l y ws rm Pc Qc (fun _ _ _ => False) mc ms free) : Met l y ws rm Pc Qc mc ms free := by
  intro p e ha hc hk s m args below hf h1 h2 h3
  obtain ⟨k, o, a1, a2, a3, b⟩ := h p e ha hc hk s m args below hf h1 h2 h3
  rcases b with b | ⟨q, _, E, ce, L, f, _⟩
  · exact ⟨k, o, a1, a2, a3, b⟩
  · exact f.elim
section WCx
variable {p : Program} {l : Launch} {e : Env} {R : Room} {s : State} {m : MethodId} {args : Array Value} {below : List Frame} {meth : Method} {c : Code} {H : Heap} {locs : List Loc} {cells slots : Nat} {Q : State → Prop} {G : GT} {σ : Mm} {pc : Nat} {ls : Array Slot} {st : List Value}
theorem w_callX {own : String} {cb : ByteArray} (hx : p.tables.exec = Jvm.exec) (hbc : c.code = cb) (hml : ls.size = c.maxLocals) (hown : s.vm.findClass own = some m.cls) (hts : ∀ w ∈ gW, w.before args s = true) (hKx : Kx G s) {M' : Me} {n idx ci a d : Nat} {av rest : List Value} (hd : decode cb pc = .ok (.invokevirtual idx, 3)) (hk : Cond.methodLink own idx M'.1 ∈ gW) (hm : MeV M' n ci) (hst : st = av.reverse ++ .ref a :: rest) (hn : av.length = n ∧ (sh a).1 = 10 + ci ∧ catS rest ≤ 24) (hR : d + 1 ≤ R.frames ∧ 95 + 96 * d ≤ R.locals ∧ cells + 1 ≤ R.cells ∧ slots + 6 ≤ R.slots) (hP : va_P G.1 vwCl (wo G σ) H) (hS : va_S (aX G) s.heap H locs) (h : vx_Met l M'.1 (wsM M') (rmT d) (Pcx G (.ref a :: av) σ) (fun _ _ _ _ => False) (XCr G σ) 1 6 (aX G))
    (k : ∀ q H' locs' ce, va_P G.1 vwCl (wo G σ) H' → va_S (aX G) s.heap H' locs' → H'[q]? = some ce → ce.vm = .none → s.vm.findClass nsE = some ce.cls → vx_W p l e R s m args below meth c H' locs' (cells + 1) (slots + 6) Q (F0 m pc ls (rest.map (tv G))) q) : W p l e R s m args below meth c H locs cells slots Q (F0 m pc ls (st.map (tv G))) := by
  intro T hT X
  obtain ⟨Q1, Q2⟩ : ∃ q : vw_C, vwCl[ci]? = some q ∧ q.1 = M'.1.cls := by
    have := hm.2.2.2.2
    cases hz : vwCl[ci]? with
    | none => rw [hz] at this; cases this
    | some q => rw [hz] at this; exact ⟨q, rfl, Option.some.inj this⟩
  obtain ⟨cellB, hcB, hoB, hclB⟩ := va_recv hKx.1 hP Q2.1 ((wo_at G σ (sh_obj hn.2.1)).trans (congrArg (fun z => some (G.2.1 a, z)) (cel_O hn.2.1)))
  rw [Q2.2] at hclB
  have hst' : st.map (tv G) = (av.map (tv G)).reverse ++ .ref (G.2.1 a) :: rest.map (tv G) := by
    rw [hst, List.map_append, List.map_reverse]
    rfl
  have hback : vx_Back l R p e below s args M'.1 3 24 (PreOf R 1 6 (Pcx G (.ref a :: av) σ)) (PostOf (fun _ _ _ _ => False) 1 6 (aX G)) (vx_Post (XCr G σ) 1 6 (aX G)) :=
    vx_back (bytes := M'.2.1) (maxL := M'.2.2.1) (ret := M'.2.2.2.1) h (blind_Pcx G _ σ) rfl rfl hR.1 (by
      have := hm.1.2.2.2.1
      have := hR.2.1
      show 24 + (M'.2.2.1 + 11) + 96 * d ≤ R.locals
      omega) (pay_in hts (ws_in hm.1)) List.mem_cons_self (fun a' U hW => word_at hW (gW_good hm.1.2.1) (hts _ hm.1.2.1))
  rcases vx_callV X hx (C := M'.1.cls) (bytes := M'.2.1) (maxL := M'.2.2.1) (ret := M'.2.2.2.1) hown (hts _ hk) (hts _ hm.2.2.1) (hts _ hm.2.2.2.1) (hts _ hm.1.1) hm.1.2.2.1 hback (by rw [hT]; exact hcB) hoB hclB (g := F0 m pc ls (st.map (tv G))) rfl hml (argsL := av.map (tv G)) (rest := rest.map (tv G)) (len_of hm.2.1 (by simp; exact hn.1)) hst' (room24 hn.2.2) (by rw [hbc]; exact hd) (fun vm1 hW1 => ⟨hR.2.2.1, hR.2.2.2, (cal_pre (l := l) (d := 0) hT hP hS hKx vm1 hW1).2.2⟩) with ⟨v, vm1, ⟨U', l2, c2, s2⟩, hW1, X', ⟨g', mk, t, Lc, e1, e2, hq, h1, hLc, h2, h3⟩, go⟩ | ⟨q, vm1, ⟨U', l2, c2, s2⟩, hW1, X', ⟨g', mk, t, Lc, E, ce, e1, e2, hq, hce, hcv, hcl, h1, hLc, h2, h3⟩, go⟩
  · exact hq.elim
  · dsimp only [Pt.U, Pt.locs, Pt.cells, Pt.slots] at X' e1 e2 h1 h2 h3 go hcl
    subst h1; subst h2; subst h3
    obtain ⟨rfl, hP', hF⟩ := hq
    obtain ⟨t2, a1, b1⟩ := k q t.heap (locs ++ Lc) ce hP' (cal_S hS (st0 := (T.setVm vm1).calling g' mk _) hT hF hLc) hce hcv (vx_cls hW1 hcl) U' e1 X'
    exact ⟨t2, go.trans a1, b1⟩
end WCx
def wsLr : List Cond := .codeWith yL_rate method_3_code 5 (some .int) [(0, 10, 13, 13)] :: gW
theorem ml_L_7 : Cond.methodLink R_law 7 yX11_rate ∈ gW := gw (i := 997) (by decide +kernel) rfl
theorem l_rate {l : Launch} {G : GT} {d : Nat} {σ : Mm} {x y v : Int32} {Q : Po} (hZ : GR G)
    (h : ((∀ Q' : Po, Q' (some (.int v)) σ → MW l G d mX11_rate [.ref 0, .int x, .int y] σ Q') ∧ Q (some (.int 0)) (uJ σ 122 0 v.toInt64)) ∨ (vx_Met l yX11_rate (wsM mX11_rate) (rmT d) (Pcx G [.ref 0, .int x, .int y] σ) (fun _ _ _ _ => False) (XCr G σ) 1 6 (aX G) ∧ Q (some (.int 1)) σ)) :
    Met l yL_rate wsLr (rmT (d + 1)) (Pcx G [.ref 0, .int x, .int y, .ref 122] σ) (Qcx G Q) 1 6 (aX G) := by
  refine met_x (vx_ofWH (cc := method_3_code) (maxL := 5) (ret := some .int) (hh := [(0, 10, 13, 13)]) (by decide +kernel) rfl ?_)
  intro p e s m args below meth c s1 B hml hv
  obtain ⟨rfl, hP, hKx⟩ := hv
  have hts0 := atoms_spec (ws := wsLr) B.pre
  have hts : ∀ w ∈ gW, w.before _ s = true := fun w hw => hts0 w (List.mem_cons_of_mem _ hw)
  have htab := vx_table (x := yL_rate) B (hts0 _ List.mem_cons_self)
  have hlocks := B.notSynchronized
  have hown : s.vm.findClass R_law = some m.cls := findClass_of_methodNamed B.named
  have hx := B.exec
  have hb := B.bytes
  have hr := B.returns
  have hS : va_S (aX G) s.heap s.heap [] := va_S.rf
  have hz := hZ s hKx.2.1
  have hl0 := lv_entry (([.ref 0, .int x, .int y, .ref 122] : List Value).map (tv G)) (n := 5) (Nat.le_of_ble_eq_true rfl)
  rw [lg_entry_eq]
  generalize (lg_sl (([.ref 0, .int x, .int y, .ref 122] : List Value).map (tv G)) ++ List.replicate (5 - (lg_sl (([.ref 0, .int x, .int y, .ref 122] : List Value).map (tv G))).length) Slot.unset).toArray = ls at hl0 ⊢
  have hls : lv_has ls 5 [(0, .ref (G.2.1 0)), (1, .int x), (2, .int y), (3, .ref (G.2.1 122))] := hl0
  refine lv_aload_n (k := 3) hx hb (by decide +kernel) rfl (lv_at hls 3 rfl) ?_
  refine lv_iconst (v := 0) hx hb (n := 0) (by decide +kernel) (by decide) ?_
  refine lv_aload_n (k := 0) hx hb (by decide +kernel) rfl (lv_at hls 0 rfl) ?_
  refine lv_iload_n (k := 1) hx hb (by decide +kernel) rfl (lv_at hls 1 rfl) ?_
  refine lv_iload_n (k := 2) hx hb (by decide +kernel) rfl (lv_at hls 2 rfl) ?_
  rcases h with ⟨hA, hq⟩ | ⟨hB, hq⟩
  · refine w_callV (st := [.int y, .int x, .ref 0, .int 0, .ref 122]) (G := G) (σ := σ) (own := R_law) (cb := method_3_code) (M' := mX11_rate) (n := 2) (idx := 7) (ci := 9) (a := 0) (d := d) (av := [.int x, .int y]) (rest := [.int 0, .ref 122]) hx hb (hls.1.trans hml.symm) hown hts hKx (by decide +kernel) ml_L_7 mv_X11_rate rfl ⟨rfl, rfl, Nat.le_of_ble_eq_true rfl⟩ ⟨Nat.le_refl _, by show 95 + 96 * d ≤ 96 * (d + 1); omega, by show 0 ≤ 1; omega, by show 0 ≤ 6; omega⟩ hP hS (hA (fun r σ' => r = some (.int v) ∧ σ' = σ) ⟨rfl, rfl⟩) (fun r σ' H' locs' hQ hP' hS' => ?_)
    obtain ⟨rfl, rfl⟩ := hQ
    refine lv_i2l (x := v) (v := v.toInt64) (rest := [.int 0, .ref (G.2.1 122)]) hx hb (by decide +kernel) rfl ?_
    refine va_last (i := 0) (rest := []) hx hb hKx.1 hP' (wo_D hKx σ') hS' 122 2 ((wo_at G σ' (by decide)).trans (congrArg (fun z => some (G.2.1 122, z)) (cel_J (by decide)))) rfl (show vp_in (0 : Int32) 1 from by unfold vp_in; decide) (by decide +kernel) (fun H1 locs1 hP1 _ hS1 => ?_)
    rw [wo_set (σ' := uJ σ' 122 (0 : Int32).toNatClampNeg v.toInt64) (by rw [cel_J (by decide)]; simp [uJ]) (fun b hb => by simp [uJ, hb]) (fun b hb => by simp [uJ, hb])] at hP1
    refine lv_goto (off := 7) (tgt := 17) hx hb (by decide +kernel) (by decide) ?_
    refine lv_iconst (v := 0) hx hb (n := 0) (by decide +kernel) (by decide) ?_
    refine W.widen (k := 1) (n := 6) (by omega) (by omega) ?_
    refine vx_ret ?_
    exact W.iret hx hb hr (fun t ht hW => ⟨⟨some (.int 0), uJ σ' 122 0 v.toInt64, rfl, hq, by rw [ht]; exact hP1⟩, hS1.F ht⟩) hS1.2.2 (by decide +kernel)
  · refine w_callX (st := [.int y, .int x, .ref 0, .int 0, .ref 122]) (G := G) (σ := σ) (own := R_law) (cb := method_3_code) (M' := mX11_rate) (n := 2) (idx := 7) (ci := 9) (a := 0) (d := d) (av := [.int x, .int y]) (rest := [.int 0, .ref 122]) hx hb (hls.1.trans hml.symm) hown hts hKx (by decide +kernel) ml_L_7 mv_X11_rate rfl ⟨rfl, rfl, Nat.le_of_ble_eq_true rfl⟩ ⟨Nat.le_refl _, by show 95 + 96 * d ≤ 96 * (d + 1); omega, by show 0 + 1 ≤ 1; omega, by show 0 + 6 ≤ 6; omega⟩ hP hS hB (fun q H' locs' ce hP' hS' c1 c2 c3 => ?_)
    refine vx_catch (own := R_law) (name := nsE) (E := nsE) (ce := ce) hown [] ((tableOf [(0, 10, 13, 13)]).head (by decide)) [] (by rw [htab]; rfl) (fun z hz => absurd hz (List.not_mem_nil)) (by decide +kernel) (by decide +kernel) (hts _ (gw (i := 996) (by decide +kernel) rfl)) (va_any rfl (hz.2.2.2 _ List.mem_cons_self)) c1 c2 c3 ?_
    show W p l e _ s m _ below meth c H' locs' _ _ _ (F0 m 13 ls [.ref q])
    refine lv_astore (i := 4) hx hb (by decide +kernel) hls (by decide) rfl (fun ls' hl' => ?_)
    refine lv_iconst (v := 1) hx hb (n := 1) (by decide +kernel) (by decide) ?_
    refine vx_ret ?_
    exact W.iret hx hb hr (fun t ht hW => ⟨⟨some (.int 1), σ, rfl, hq, by rw [ht]; exact hP'⟩, hS'.F ht⟩) hS'.2.2 (by decide +kernel)
