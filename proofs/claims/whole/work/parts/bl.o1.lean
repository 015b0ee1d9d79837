-- multianewarray, two dimensions
theorem ms_instr {tb : Tables} [Ours tb] {e : Env} {below : List Frame} {s : State} {f : JFrame} {c : Code} {i : Instr} {len : Nat} {Φ : State → Prop} (h : At s f.method c below) (hd : decode c.code f.pc = .ok (i, len))
    (hw : wpRun (tb.exec i) (fun _ s₁ _ => ∃ target, Φ target ∧ ∀ acts, Steps tb e below (afterInstr e len (.ok () s₁ acts)).1 target) (fun _ _ _ => False) e (s.setTop f)) : ∃ target, Steps tb e below (s.setTop f) target ∧ Φ target := by
  have hw := (wpRun_iff_run _ _ _ _ _).mp hw
  cases hr : (tb.exec i).run e (s.setTop f) with
  | ok a s₁ acts =>
    rw [hr] at hw
    obtain ⟨t, h1, h2⟩ := hw
    refine ⟨t, Steps.head ⟨h.running, by rw [State.curStatus?_setTop]; exact h.runnable, by rw [State.alone_setTop]; exact h.alone⟩ (h.within f) ?_, h1⟩
    rw [stepThread_java (State.frames_setTop' f h.top) h.plain h.code hd, hr]
    exact h2 acts
  | ctl x s₁ acts =>
    rw [hr] at hw
    cases x <;> exact hw.elim
section BWx
variable {p : Program} {l : Launch} {e : Env} {R : Room} {s : State} {m : MethodId} {args : Array Value} {below : List Frame} {meth : Method} {c : Code} {H : Heap} {locs : List Loc} {cells slots : Nat} {Q : State → Prop} {G : GT} {S : List (Nat × Nat)} {n : Nat} {cc : ByteArray} {pc : Nat} {ls : Array Slot} {rest : List Value}
theorem bw_multi {own : String} {index N K : Nat} {x y : Int32} (hx : p.tables.exec = Jvm.exec) (hb : c.code = cc) (hown : s.vm.findClass own = some m.cls) (hts : ∀ w ∈ gW, w.before args s = true) (hK : va_K G.1 vwCl (tyL G) s) (hg : Adr G) (hn : n + 1 + N ≤ NN) (hP : va_P G.1 vwCl (wBd G S n) H) (hz : H.size = G.2.2.2.1 + n) (hS : va_S (aX G) s.heap H locs)
    (hcl : Cond.classLink own index "[[I" ∈ gW) (hA : nsA G s) (hk : (sh n).1 = 4 ∧ (sh n).2.1 = N) (hSn : ∀ i, (n, i) ∉ S) (hrow : ∀ i, i < N → (sh (n + 1 + i)).1 = 1 ∧ (sh (n + 1 + i)).2.1 = K ∧ (sh n).2.2.getD i 0 = n + 1 + i)
    (h0 : ¬ x < 0 ∧ ¬ y < 0) (hN : x.toNatClampNeg = N) (hM : y.toNatClampNeg = K) (hby : N ≤ 1000 ∧ K ≤ 1000) (hcells : cells + 1 + N ≤ R.cells) (hslots : slots + N + N * K ≤ R.slots) (hdg : decode cc pc = .ok (.multianewarray index 2, 4))
    (kk : ∀ (H1 : Heap) (locs1 : List Loc), va_P G.1 vwCl (wBd G (rwS n S N) (n + 1 + N)) H1 → H1.size = G.2.2.2.1 + (n + 1 + N) → va_S (aX G) s.heap H1 locs1 → W p l e R s m args below meth c H1 locs1 (cells + 1 + N) (slots + N + N * K) Q (F0 m (pc + 4) ls (.ref (G.2.1 n) :: rest))) : W p l e R s m args below meth c H locs cells slots Q (F0 m pc ls (.int y :: .int x :: rest)) := by
  intro T hT X
  subst hT; subst hb
  obtain ⟨kA, a1, a2⟩ := hA
  obtain ⟨-, kC, c1, cE, c2⟩ := (hK.2 1 _ rfl).1 0 (fun _ => .null)
  replace c1 : s.vm.classes[G.2.2.1 1]? = some kC := c1
  have hf4 : s.vm.findClass "[[I" = some (G.2.2.1 4) := (hK.2 4 _ rfl).2
  have hpl : e.platform.magicAccessors = ({} : Platform).magicAccessors := by rw [X.admits.platform]
  obtain ⟨cA, hfc, hln⟩ := Cond.classLink_spec hown (hts _ hcl) e.platform hpl
  cases hf4.symm.trans hfc
  obtain ⟨hg1, hw1, hr1⟩ := State.classEntry (e := e) X.warmed hln
  generalize T.vm.noted m.cls index (.cls (G.2.2.1 4)) = vm1 at hg1 hw1 hr1
  have hal := hw1.alike
  obtain ⟨kA1, b1, eA⟩ := hal.2.2 _ _ a1
  obtain ⟨kC1, d1, eC⟩ := hal.2.2 _ _ c1
  have b2 : kA1.kind = .array (G.2.2.1 1) (.array .int) := by rw [eA]; exact a2
  have d2 : kC1.kind = .array cE .int := by rw [eC]; exact c2
  have X1 := X.noted hw1
  refine ms_instr (f := F0 m pc ls (.int y :: .int x :: rest)) X.here hdg ?_
  rw [hx]
  show wp (Op.multianewarray.sem index 2) _ _ e false [] (T.setTop (F0 m pc ls (.int y :: .int x :: rest)))
  simp only [Op.multianewarray.sem, wp_bind', W.resolveClassAt_links (t := T.setTop (F0 m pc ls (.int y :: .int x :: rest))) (State.method?_setTop (F0 m pc ls (.int y :: .int x :: rest)) X.here.top) hg1]
  rw [W.popN, if_neg (by decide)]
  refine ⟨F0 m pc ls (.int y :: .int x :: rest), State.topJava?_setTop' (s := T.setVm vm1) _ X.here.top, [.int x, .int y], rest, rfl, rfl, ?_⟩
  simp only [List.mapM_cons, List.mapM_nil, wp_bind', wp_pure']
  have eS : ((T.setTop (F0 m pc ls (.int y :: .int x :: rest))).setVm vm1).setTop { F0 m pc ls (.int y :: .int x :: rest) with stack := rest } = (T.setVm vm1).setTop (F0 m pc ls rest) := by
    show ((T.setVm vm1).setTop _).setTop _ = _
    rw [State.setTop_setTop]
  rw [eS]
  refine ms_world (T := T.setVm vm1) (g := F0 m pc ls rest) X1 hg hn hP hz hS b1 b2 d1 d2 hk hSn hrow h0 hN hM hby hcells hslots (fun U locs1 d' acts' XU h1 h2 h3 => ?_)
  simp only [wp_bind', W.mark, W.pushRef, State.topJava?_setTop' _ XU.here.top, Option.some.injEq, exists_eq_left', State.setTop_setTop, State.heap_setTop]
  obtain ⟨t, g1, g2⟩ := kk U.heap locs1 h1 h2 h3 U rfl XU
  refine ⟨t, g2, fun acts => ?_⟩
  rw [afterInstr_ok]
  exact g1
end BWx
