def R_law : String := "RefundDeskLaw"
def lw_P (b : Addr) (xs : List Int32) (args : Array Value) (s : State) : Prop := args = #[.ref b] ∧ s.IntsAt b xs ∧ xs.length ≤ 3072 ∧ (Jvm.Cond.and given_1 narrow_1).before args s = true
def lw_Q (_ : Array Value) (s : State) (o : Outcome) (t : State) : Prop := o = .returned (some (.int 1)) ∧ Framed s o t [] 601024 7293034
def lw_Z (below : List Frame) (a : Array Value) (s : State) : State → Prop := fun t => ∃ o, t.status = .running ∧ Ended t below o ∧ lw_Q a s o t
/-- the law's own end, with 1 on the stack, nothing written that was there before, its room as the claim has it -/
theorem lw_ret {p : Program} {l : Launch} {e : Env} {s : State} {m : MethodId} {below : List Frame} {meth : Method} {c : Code} {b : Nat} (hx : p.tables.exec = Jvm.exec) (hb : c.code = code) (hr : meth.sig.returnType = ret) (hlocks : meth.locks = false) {pc : Nat} {H : Heap} {ls : Array Slot} (hdg : decode code pc = .ok (.ireturn, 1)) : W p l e room_1 s m #[Value.ref b] below meth c H [] 601024 7293034 (lw_Z below #[Value.ref b] s) (F0 m pc ls [.int 1]) := by
  intro T hT X
  obtain ⟨fs, hret, hrun, hended, hW, hframe⟩ := X.leave (v := some (.int 1)) (hlocks := hlocks) (fun h => by rw [hr] at h; cases h)
  have hmeth' : T.vm.method? m = some meth := X.method'
  refine ⟨T.setFrames fs, ?_, .returned (some (.int 1)), hrun, hended, rfl, ⟨_, rfl⟩, hW, hframe⟩
  jvm_step X.here [X.here.top, hx, hb, hdg, hmeth', hr, ret, narrow_b1]
  (try refine ⟨rfl, ?_⟩); (try refine ⟨rfl, ?_⟩)
  first | (intro acts; rw [hret _ acts rfl rfl rfl]) | rw [hret _ _ rfl rfl rfl]
  exact Steps.refl _
/-- what holds at the law's entry: the machine, the code, the tables' words (any of lw_tbl by 'hts w (by decide +kernel)'), the script of L ints xs at the cell b, what the Statement gives of the start (any of its parts by flat_of_before) -/
def lw_At (p : Program) (s : State) (m : MethodId) (meth : Method) (c : Code) (b L : Nat) (xs : Nat → Int32) : Prop :=
  p.tables.exec = Jvm.exec ∧ c.code = code ∧ meth.sig.returnType = ret ∧ c.maxLocals = 7 ∧ s.vm.findClass R_law = some m.cls ∧ (∀ w ∈ lw_tbl, w.before #[Value.ref b] s = true) ∧ va_X b L xs s s.heap ∧ b < s.heap.size ∧ meth.locks = false ∧ (Jvm.Cond.and given_1 narrow_1).before #[Value.ref b] s = true

-- the law's places
def lv0 (i : Nat) : Lv := [(0, .ref 123), (1, .ref 0), (2, .ref 98), (3, .ref 122), (4, .int (jI (i : Int)))]
def Lcx (G : GT) (p : Program) (s : State) (m : MethodId) (meth : Method) (c : Code) (b L : Nat) (xs : Nat → Int32) : Prop := lw_At p s m meth c b L xs ∧ Kx G s ∧ G.2.1 123 = b ∧ G.2.2.2.1 = s.heap.size ∧ L ≤ 3072
/-- from this place of the law, with these locals, stack and memory, cc cells and ss slots made, it comes to its end -/
def LB (p : Program) (l : Launch) (e : Env) (s : State) (m : MethodId) (below : List Frame) (meth : Method) (c : Code) (b : Nat) (G : GT) (cc ss pc : Nat) (lv : Lv) (st : List Value) (σ : Mm) : Prop :=
  ∀ (H : Heap) (locs : List Loc) (ls : Array Slot), va_P G.1 vwCl (wo G σ) H → va_S (aX G) s.heap H locs → lv_has ls 7 (lv.map (tl G)) → W p l e room_1 s m #[Value.ref b] below meth c H locs cc ss (lw_Z below #[Value.ref b] s) (F0 m pc ls (st.map (tv G)))
section LPl
variable {p : Program} {l : Launch} {e : Env} {s : State} {m : MethodId} {below : List Frame} {meth : Method} {c : Code} {b L : Nat} {xs : Nat → Int32} {G : GT} {cc ss pc : Nat} {lv : Lv} {st : List Value} {σ : Mm}
theorem Lcx.w (C : Lcx G p s m meth c b L xs) : ∀ w ∈ gW, w.before #[Value.ref b] s = true := fun w hw => C.1.2.2.2.2.2.1 w (List.mem_filter.mp hw).1
theorem Lcx.out (C : Lcx G p s m meth c b L xs) : ¬ aX G b := by
  show ¬ G.2.2.2.1 ≤ b
  rw [C.2.2.2.1]
  exact Nat.not_le.mpr C.1.2.2.2.2.2.2.2.1
theorem le_aload_n (C : Lcx G p s m meth c b L xs) {k : Fin 4} {a : Nat} (hd : decode code pc = .ok (.aload_n k, 1)) (h1 : lk lv k = some (.ref a)) (h : LB p l e s m below meth c b G cc ss (pc + 1) lv (.ref a :: st) σ) : LB p l e s m below meth c b G cc ss pc lv st σ :=
  fun H locs ls hP hS hl => lv_aload_n C.1.1 C.1.2.1 hd rfl (lk_at hl h1) (h H locs ls hP hS hl)
theorem le_iload (C : Lcx G p s m meth c b L xs) {i : Nat} {v : Int32} (hd : decode code pc = .ok (.iload i, 2)) (h1 : lk lv i = some (.int v)) (h : LB p l e s m below meth c b G cc ss (pc + 2) lv (.int v :: st) σ) : LB p l e s m below meth c b G cc ss pc lv st σ :=
  fun H locs ls hP hS hl => lv_iload C.1.1 C.1.2.1 hd (lk_at hl h1) (h H locs ls hP hS hl)
theorem le_iconst (C : Lcx G p s m meth c b L xs) {n : Int} {v : Int32} (hd : decode code pc = .ok (.iconst n, 1)) (hv : Int32.ofInt n = v) (h : LB p l e s m below meth c b G cc ss (pc + 1) lv (.int v :: st) σ) : LB p l e s m below meth c b G cc ss pc lv st σ :=
  fun H locs ls hP hS hl => lv_iconst C.1.1 C.1.2.1 hd hv (h H locs ls hP hS hl)
theorem le_bipush (C : Lcx G p s m meth c b L xs) {n : Int} {v : Int32} (hd : decode code pc = .ok (.bipush n, 2)) (hv : (Int8.ofInt n).toInt32 = v) (h : LB p l e s m below meth c b G cc ss (pc + 2) lv (.int v :: st) σ) : LB p l e s m below meth c b G cc ss pc lv st σ :=
  fun H locs ls hP hS hl => lv_bipush C.1.1 C.1.2.1 hd hv (h H locs ls hP hS hl)
theorem le_iadd (C : Lcx G p s m meth c b L xs) {x y : Int32} (hd : decode code pc = .ok (.iadd, 1)) (h : LB p l e s m below meth c b G cc ss (pc + 1) lv (.int (x + y) :: st) σ) : LB p l e s m below meth c b G cc ss pc lv (.int y :: .int x :: st) σ :=
  fun H locs ls hP hS hl => lv_iadd C.1.1 C.1.2.1 hd (h H locs ls hP hS hl)
theorem le_isub (C : Lcx G p s m meth c b L xs) {x y : Int32} (hd : decode code pc = .ok (.isub, 1)) (h : LB p l e s m below meth c b G cc ss (pc + 1) lv (.int (x - y) :: st) σ) : LB p l e s m below meth c b G cc ss pc lv (.int y :: .int x :: st) σ :=
  fun H locs ls hP hS hl => lv_isub C.1.1 C.1.2.1 hd (h H locs ls hP hS hl)
theorem le_iand (C : Lcx G p s m meth c b L xs) {x y : Int32} (hd : decode code pc = .ok (.iand, 1)) (h : LB p l e s m below meth c b G cc ss (pc + 1) lv (.int (x &&& y) :: st) σ) : LB p l e s m below meth c b G cc ss pc lv (.int y :: .int x :: st) σ :=
  fun H locs ls hP hS hl => lv_iand C.1.1 C.1.2.1 hd (h H locs ls hP hS hl)
theorem le_i2l (C : Lcx G p s m meth c b L xs) {x : Int32} (hd : decode code pc = .ok (.i2l, 1)) (h : LB p l e s m below meth c b G cc ss (pc + 1) lv (.long x.toInt64 :: st) σ) : LB p l e s m below meth c b G cc ss pc lv (.int x :: st) σ :=
  fun H locs ls hP hS hl => lv_i2l C.1.1 C.1.2.1 hd rfl (h H locs ls hP hS hl)
theorem le_lshl (C : Lcx G p s m meth c b L xs) {x : Int64} {y : Int32} (hd : decode code pc = .ok (.lshl, 1)) (h : LB p l e s m below meth c b G cc ss (pc + 1) lv (.long (x <<< (y.toInt64 &&& 63)) :: st) σ) : LB p l e s m below meth c b G cc ss pc lv (.int y :: .long x :: st) σ :=
  fun H locs ls hP hS hl => lv_lshl C.1.1 C.1.2.1 hd rfl (h H locs ls hP hS hl)
theorem le_land (C : Lcx G p s m meth c b L xs) {x y : Int64} (hd : decode code pc = .ok (.land, 1)) (h : LB p l e s m below meth c b G cc ss (pc + 1) lv (.long (x &&& y) :: st) σ) : LB p l e s m below meth c b G cc ss pc lv (.long y :: .long x :: st) σ :=
  fun H locs ls hP hS hl => lv_land C.1.1 C.1.2.1 hd (h H locs ls hP hS hl)
theorem le_lor (C : Lcx G p s m meth c b L xs) {x y : Int64} (hd : decode code pc = .ok (.lor, 1)) (h : LB p l e s m below meth c b G cc ss (pc + 1) lv (.long (x ||| y) :: st) σ) : LB p l e s m below meth c b G cc ss pc lv (.long y :: .long x :: st) σ :=
  fun H locs ls hP hS hl => lv_lor C.1.1 C.1.2.1 hd (h H locs ls hP hS hl)
theorem le_ldc2 (C : Lcx G p s m meth c b L xs) {n : Nat} {v : Int64} (hd : decode code pc = .ok (.ldc2_w n, 3)) (hk : Cond.constantLong R_law n v ∈ gW) (h : LB p l e s m below meth c b G cc ss (pc + 3) lv (.long v :: st) σ) : LB p l e s m below meth c b G cc ss pc lv st σ :=
  fun H locs ls hP hS hl => lv_ldc2 C.1.1 C.1.2.1 C.1.2.2.2.2.1 (C.w _ hk) hd (h H locs ls hP hS hl)
theorem le_goto (C : Lcx G p s m meth c b L xs) {off : Int} {t : Nat} (hd : decode code pc = .ok (.goto off, 3)) (ht : (pc : Int) + off = (t : Int)) (h : LB p l e s m below meth c b G cc ss t lv st σ) : LB p l e s m below meth c b G cc ss pc lv st σ :=
  fun H locs ls hP hS hl => lv_goto C.1.1 C.1.2.1 hd ht (h H locs ls hP hS hl)
theorem le_icmp_gt (C : Lcx G p s m meth c b L xs) {x y : Int32} {off : Int} {t : Nat} (hd : decode code pc = .ok (.if_icmp .gt off, 3)) (ht : (pc : Int) + off = (t : Int)) (h1 : y < x → LB p l e s m below meth c b G cc ss t lv st σ) (h2 : ¬ y < x → LB p l e s m below meth c b G cc ss (pc + 3) lv st σ) : LB p l e s m below meth c b G cc ss pc lv (.int y :: .int x :: st) σ :=
  fun H locs ls hP hS hl => lv_icmp_gt C.1.1 C.1.2.1 hd ht (fun q => h1 q H locs ls hP hS hl) (fun q => h2 q H locs ls hP hS hl)
theorem le_icmp_eq (C : Lcx G p s m meth c b L xs) {x y : Int32} {off : Int} {t : Nat} (hd : decode code pc = .ok (.if_icmp .eq off, 3)) (ht : (pc : Int) + off = (t : Int)) (h1 : x = y → LB p l e s m below meth c b G cc ss t lv st σ) (h2 : ¬ x = y → LB p l e s m below meth c b G cc ss (pc + 3) lv st σ) : LB p l e s m below meth c b G cc ss pc lv (.int y :: .int x :: st) σ :=
  fun H locs ls hP hS hl => lv_icmp_eq C.1.1 C.1.2.1 hd ht (fun q => h1 q H locs ls hP hS hl) (fun q => h2 q H locs ls hP hS hl)
theorem le_if_eq (C : Lcx G p s m meth c b L xs) {x : Int32} {off : Int} {t : Nat} (hd : decode code pc = .ok (.ifCond .eq off, 3)) (ht : (pc : Int) + off = (t : Int)) (h1 : x = 0 → LB p l e s m below meth c b G cc ss t lv st σ) (h2 : ¬ x = 0 → LB p l e s m below meth c b G cc ss (pc + 3) lv st σ) : LB p l e s m below meth c b G cc ss pc lv (.int x :: st) σ :=
  fun H locs ls hP hS hl => lv_if_eq C.1.1 C.1.2.1 hd ht (fun q => h1 q H locs ls hP hS hl) (fun q => h2 q H locs ls hP hS hl)
theorem le_if_ne (C : Lcx G p s m meth c b L xs) {x : Int32} {off : Int} {t : Nat} (hd : decode code pc = .ok (.ifCond .ne off, 3)) (ht : (pc : Int) + off = (t : Int)) (h1 : ¬ x = 0 → LB p l e s m below meth c b G cc ss t lv st σ) (h2 : x = 0 → LB p l e s m below meth c b G cc ss (pc + 3) lv st σ) : LB p l e s m below meth c b G cc ss pc lv (.int x :: st) σ :=
  fun H locs ls hP hS hl => lv_if_ne C.1.1 C.1.2.1 hd ht (fun q => h1 q H locs ls hP hS hl) (fun q => h2 q H locs ls hP hS hl)
theorem le_lcmp (C : Lcx G p s m meth c b L xs) {x y : Int64} (hd : decode code pc = .ok (.lcmp, 1)) (h : LB p l e s m below meth c b G cc ss (pc + 1) lv (.int (lg_cmp x y) :: st) σ) : LB p l e s m below meth c b G cc ss pc lv (.long y :: .long x :: st) σ :=
  fun H locs ls hP hS hl => W.lcmp C.1.1 C.1.2.1 hd (h H locs ls hP hS hl)
theorem le_istore (C : Lcx G p s m meth c b L xs) {i : Nat} {v : Int32} (hd : decode code pc = .ok (.istore i, 2)) (hn : i < 7) (h : LB p l e s m below meth c b G cc ss (pc + 2) (sto lv i (.int v)) st σ) : LB p l e s m below meth c b G cc ss pc lv (.int v :: st) σ :=
  fun H locs ls hP hS hl => lv_istore C.1.1 C.1.2.1 hd hl hn rfl (fun ls' hl' => h H locs ls' hP hS (lv_mono hl' sto_ok))
theorem le_slen (C : Lcx G p s m meth c b L xs) (hd : decode code pc = .ok (.arraylength, 1)) (h : LB p l e s m below meth c b G cc ss (pc + 1) lv (.int (jI (L : Int)) :: st) σ) : LB p l e s m below meth c b G cc ss pc lv (.ref 123 :: st) σ := by
  intro H locs ls hP hS hl
  have := va_slen (R := room_1) (below := below) (e := e) (l := l) C.1.1 C.1.2.1 C.1.2.2.2.2.2.2.1 C.1.2.2.2.2.2.2.2.1 C.out hS hd (h H locs ls hP hS hl)
  show W p l e room_1 s m #[Value.ref b] below meth c H locs cc ss (lw_Z below #[Value.ref b] s) (F0 m pc ls (.ref (G.2.1 123) :: st.map (tv G)))
  rw [C.2.2.1]
  exact this
theorem le_sld (C : Lcx G p s m meth c b L xs) {v : Int32} (k : Nat) (hv : v = jI (k : Int)) (hk : k < L) (hd : decode code pc = .ok (.iaload, 1)) (h : LB p l e s m below meth c b G cc ss (pc + 1) lv (.int (xs k) :: st) σ) : LB p l e s m below meth c b G cc ss pc lv (.int v :: .ref 123 :: st) σ := by
  intro H locs ls hP hS hl
  have hL := C.2.2.2.2
  have hin : vp_in v L := by rw [hv]; exact jin_of (by omega) (by omega) (by omega)
  have e1 : v.toNatClampNeg = k := by rw [hv, jix (by omega), Int.toNat_natCast]
  have := va_sld (R := room_1) (below := below) (e := e) (l := l) (cells := cc) (slots := ss) (Q := lw_Z below #[Value.ref b] s) (ls := ls) (rest := st.map (tv G)) C.1.1 C.1.2.1 C.1.2.2.2.2.2.2.1 C.1.2.2.2.2.2.2.2.1 C.out hS hin hd (by rw [e1]; exact h H locs ls hP hS hl)
  show W p l e room_1 s m #[Value.ref b] below meth c H locs cc ss (lw_Z below #[Value.ref b] s) (F0 m pc ls (.int v :: .ref (G.2.1 123) :: st.map (tv G)))
  rw [C.2.2.1]
  exact this
theorem le_arg (C : Lcx G p s m meth c b L xs) {i : Nat} (k : Nat) (hk : i + k < L) (hl4 : lk lv 0 = some (.ref 123) ∧ lk lv 4 = some (.int (jI (i : Int)))) (d0 : decode code pc = .ok (.aload_n 0, 1)) (d1 : decode code (pc + 1) = .ok (.iload 4, 2)) (d2 : decode code (pc + 3) = .ok (.iconst (k : Int), 1)) (d3 : decode code (pc + 4) = .ok (.iadd, 1)) (d4 : decode code (pc + 5) = .ok (.iaload, 1)) (h : LB p l e s m below meth c b G cc ss (pc + 6) lv (.int (xs (i + k)) :: st) σ) : LB p l e s m below meth c b G cc ss pc lv st σ := by
  refine le_aload_n C d0 hl4.1 ?_
  refine le_iload C d1 hl4.2 ?_
  refine le_iconst C d2 rfl ?_
  refine le_iadd C d3 ?_
  exact le_sld C (i + k) (by show jI (i : Int) + jI (k : Int) = _; rw [jadd]; congr 1) hk d4 h
/-- calls -/
theorem cal_backL {d : Nat} {M' : Me} {av : List Value} {Q' : Po} {args : Array Value} (hc : MeC M') (hd : d ≤ 100) (hts : ∀ w ∈ gW, w.before args s = true) (h : MW l G d M' av σ Q') : Back l room_1 p e below s args M'.1 3 24 (PreOf room_1 0 0 (Pcx G av σ)) (PostOf (Qcx G Q') 0 0 (aX G)) :=
  back_of (bytes := M'.2.1) (maxL := M'.2.2.1) (ret := M'.2.2.2.1) h (blind_Pcx G av σ) rfl rfl (by show d + 1 ≤ 2048; omega) (by
    have := hc.2.2.2.1
    show 24 + (M'.2.2.1 + 11) + 96 * d ≤ 84000
    omega) (pay_in hts (ws_in hc)) List.mem_cons_self (fun a' U hW => word_at hW (gW_good hc.2.1) (hts _ hc.2.1))
theorem le_callV (C : Lcx G p s m meth c b L xs) {M' : Me} {n idx ci a : Nat} {d : Nat} {av : List Value} {rest : List Value} (hd : decode code pc = .ok (.invokevirtual idx, 3)) (hk : Cond.methodLink R_law idx M'.1 ∈ gW) (hm : MeV M' n ci) (hst : st = av.reverse ++ .ref a :: rest) (hn : av.length = n ∧ (sh a).1 = 10 + ci ∧ catS rest ≤ 24) (hb : d ≤ 100 ∧ cc ≤ 601024 ∧ ss ≤ 7293034)
    (h : MW l G d M' (.ref a :: av) σ (fun r σ' => LB p l e s m below meth c b G cc ss (pc + 3) lv (r.toList ++ rest) σ')) : LB p l e s m below meth c b G cc ss pc lv st σ := by
  intro H locs ls hP hS hl T hT X
  obtain ⟨⟨hx, hbc, hr, hml, hown, hts0, hX, hbl, hlocks, hgv⟩, hKx, hbb, hsz, hL⟩ := id C
  have hts := C.w
  obtain ⟨Q1, Q2⟩ : ∃ q : vw_C, vwCl[ci]? = some q ∧ q.1 = M'.1.cls := by
    have := hm.2.2.2.2
    cases hz : vwCl[ci]? with
    | none => rw [hz] at this; cases this
    | some q => rw [hz] at this; exact ⟨q, rfl, Option.some.inj this⟩
  obtain ⟨cellB, hcB, hoB, hclB⟩ := va_recv hKx.1 hP Q2.1 ((wo_at G σ (sh_obj hn.2.1)).trans (congrArg (fun z => some (G.2.1 a, z)) (cel_O hn.2.1)))
  rw [Q2.2] at hclB
  have hst' : st.map (tv G) = (av.map (tv G)).reverse ++ .ref (G.2.1 a) :: rest.map (tv G) := by
    rw [hst, List.map_append, List.map_reverse]
    rfl
  obtain ⟨v, vm1, ⟨U', l2, c2, s2⟩, hW1, X', ⟨g', mk, t, Lc, e1, e2, hq, h1, hLc, h2, h3⟩, go⟩ := callV X hx (C := M'.1.cls) (bytes := M'.2.1) (maxL := M'.2.2.1) (ret := M'.2.2.2.1) hown (hts _ hk) (hts _ hm.2.2.1) (hts _ hm.2.2.2.1) (hts _ hm.1.1) hm.1.2.2.1 (cal_backL hm.1 hb.1 hts h) (by rw [hT]; exact hcB) hoB hclB (g := F0 m pc ls (st.map (tv G))) rfl (hl.1.trans hml.symm) (argsL := av.map (tv G)) (rest := rest.map (tv G)) (len_of hm.2.1 (by simp; exact hn.1)) hst' (room24 hn.2.2) (by rw [hbc]; exact hd) (fun vm1 hW1 => ⟨hb.2.1, hb.2.2, (cal_pre (l := l) (d := 0) hT hP hS hKx vm1 hW1).2.2⟩)
  dsimp only [Pt.U, Pt.locs, Pt.cells, Pt.slots] at X' e1 e2 h1 h2 h3 go
  subst h1; subst h2; subst h3
  obtain ⟨⟨r, σ', hv, hQ, hP'⟩, hF⟩ := hq
  cases hv
  have hgo := hQ t.heap (locs ++ Lc) ls hP' (cal_S hS (st0 := (T.setVm vm1).calling g' mk _) hT hF hLc) hl
  obtain ⟨t2, a1, b1⟩ := hgo U' e1 X'
  refine ⟨t2, go t2 ?_, b1⟩
  have he : (r.map (tv G)).toList ++ rest.map (tv G) = (r.toList ++ rest).map (tv G) := by cases r <;> simp
  rw [he]
  exact a1
/-- the end -/
theorem le_end (C : Lcx G p s m meth c b L xs) (hb : cc ≤ 601024 ∧ ss ≤ 7293034) (h0 : decode code pc = .ok (.iconst 1, 1)) (h1 : decode code (pc + 1) = .ok (.ireturn, 1)) : LB p l e s m below meth c b G cc ss pc lv [] σ := by
  intro H locs ls hP hS hl
  refine lv_iconst (v := 1) C.1.1 C.1.2.1 h0 (by decide) ?_
  refine va_forget (fun q hq => ?_) ?_
  · have := hS.2.2 q hq
    show s.heap.size ≤ q.base
    rw [← C.2.2.2.1]
    exact this
  refine W.widen (k := 601024) (n := 7293034) hb.1 hb.2 ?_
  exact lw_ret C.1.1 C.1.2.1 C.1.2.2.1 C.1.2.2.2.2.2.2.2.2.1 h1
theorem le_iinc6 (C : Lcx G p s m meth c b L xs) {i : Nat} {off : Int} {t : Nat} (hd : decode code pc = .ok (.iinc 4 6, 3)) (hd2 : decode code (pc + 3) = .ok (.goto off, 3)) (ht : ((pc + 3 : Nat) : Int) + off = (t : Int)) (h : LB p l e s m below meth c b G cc ss t (lv0 (i + 6)) [] σ) : LB p l e s m below meth c b G cc ss pc (lv0 i) [] σ := by
  intro H locs ls hP hS hl
  refine lv_iinc (v := jI ((i + 6 : Nat) : Int)) C.1.1 C.1.2.1 hd hl (k := 4) rfl (by show jI (i : Int) + jI 6 = _; rw [jadd]; congr 1) (by decide) rfl (fun ls' hl' => ?_)
  refine lv_goto C.1.1 C.1.2.1 hd2 ht ?_
  refine h H locs ls' hP hS (lv_mono hl' (fun q hq => ?_))
  have : ∀ q ∈ (lv0 (i + 6)).map (tl G), q ∈ (4, Value.int (jI ((i + 6 : Nat) : Int))) :: ((lv0 i).map (tl G)).filter (fun q => !(q.1 == 4) && !(q.1 + 1 == 4 && q.2.category == 2)) := by
    intro q hq
    simp only [lv0, List.map_cons, List.map_nil, tl, tv, List.mem_cons, List.not_mem_nil, or_false] at hq
    simp only [lv0, List.map_cons, List.map_nil, tl, tv, List.filter, Value.category]
    rcases hq with rfl | rfl | rfl | rfl | rfl <;> simp
  exact this q hq
end LPl
