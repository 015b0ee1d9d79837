-- constructors: from a place of a body
def GB (G : GT) (s : State) : Prop := nsA G s ∧ va_AO RX7 s ∧ va_Nw (.methodLinkNest RX11 31 yX9_init RX11) s ∧ va_Nw (.methodLinkNest RX11 47 yX6_init RX11) s ∧ va_Nw (.methodLinkNest RX8 23 yX7_init RX11) s ∧ va_Nw (.methodLinkNest RX11 72 yX2_init RX11) s ∧ va_Nw (.methodLinkNest RX10 33 yX7_init RX11) s
def GN (G : GT) : Prop := Adr G ∧ ∀ U, G.2.2.2.2 U → GB G U
def loS (S : List (Nat × Nat)) (n : Nat) : Prop := ∀ q ∈ S, q.1 < n
theorem loS_up {S : List (Nat × Nat)} {n n' : Nat} (h : loS S n) (hn : n ≤ n') : loS S n' := fun q hq => Nat.lt_of_lt_of_le (h q hq) hn
theorem loS_cons {S : List (Nat × Nat)} {n a k : Nat} (h : loS S n) (ha : a < n) : loS ((a, k) :: S) n := fun q hq => by
  rcases List.mem_cons.mp hq with rfl | hq
  · exact ha
  · exact h q hq
theorem loS_rw {S : List (Nat × Nat)} {n a : Nat} (h : loS S n) (ha : a < n) : ∀ i, loS (rwS a S i) n
  | 0 => h
  | i + 1 => loS_cons (loS_rw h ha i) ha
theorem loS_app {L S : List (Nat × Nat)} {n n' : Nat} (hL : L.all (fun q => decide (q.1 < n')) = true) (hn : n ≤ n') (h : loS S n) : loS (L ++ S) n' := fun q hq => by
  rcases List.mem_append.mp hq with hq | hq
  · exact of_decide_eq_true (List.all_eq_true.mp hL q hq)
  · exact Nat.lt_of_lt_of_le (h q hq) hn
def dvK (q : Nat) : Value := if q = 0 then .int 0 else if q = 1 then .long 0 else .null
/-- a field that may be set by its own class's constructor, of a reference type -/
def FB (own : String) (ci k : Nat) : Prop := ∃ (C : String) (T : u_T) (N : Nat) (ty : FieldType), vwCl[ci]? = some (C, T, N) ∧ ((T k).2.2.2 = false ∨ ((T k).2.2.2 = true ∧ (T k).1 = own)) ∧ parseFieldDescriptor (T k).2.2.1 = some ty ∧ (∀ q : Nat, narrow ty (.ref q) = .ref q) ∧ ∀ q : Nat, fits ty (.ref q) = true
def Bp (l : Launch) (G : GT) (d : Nat) (M : Me) (mc ms : Nat) (S' : List (Nat × Nat)) (n' pc : Nat) (lv : Lv) (st : List Value) (S : List (Nat × Nat)) (n c1 s1 : Nat) : Prop :=
  ∀ (p : Program) (e : Env) (s : State) (m : MethodId) (args : Array Value) (below : List Frame) (meth : Method) (c : Code) (H : Heap) (locs : List Loc) (ls : Array Slot), Cw G M p s m args meth c → meth.name = "<init>" → va_P G.1 vwCl (wBd G S n) H → H.size = G.2.2.2.1 + n → va_S (aX G) s.heap H locs → lv_has ls M.2.2.1 (lv.map (tl G)) → loS S n →
    W p l e (rmB d mc ms) s m args below meth c H locs c1 s1 (MQ below (QcB G S' n') args s mc ms (aX G)) (F0 m pc ls (st.map (tv G)))
section BPs
variable {l : Launch} {G : GT} {d : Nat} {M : Me} {mc ms : Nat} {S' : List (Nat × Nat)} {n' pc : Nat} {lv : Lv} {st : List Value} {S : List (Nat × Nat)} {n c1 s1 : Nat}
theorem bp_aload {k : Fin 4} {a : Nat} (hd : decode M.2.1 pc = .ok (.aload_n k, 1)) (h1 : lk lv k = some (.ref a)) (h : Bp l G d M mc ms S' n' (pc + 1) lv (.ref a :: st) S n c1 s1) : Bp l G d M mc ms S' n' pc lv st S n c1 s1 :=
  fun p e s m args below meth c H locs ls C hm hP hz hS hl hlo => lv_aload_n C.1 C.2.1 hd rfl (lk_at hl h1) (h p e s m args below meth c H locs ls C hm hP hz hS hl hlo)
theorem bp_iconst {z : Int} {v : Int32} (hd : decode M.2.1 pc = .ok (.iconst z, 1)) (hv : Int32.ofInt z = v) (h : Bp l G d M mc ms S' n' (pc + 1) lv (.int v :: st) S n c1 s1) : Bp l G d M mc ms S' n' pc lv st S n c1 s1 :=
  fun p e s m args below meth c H locs ls C hm hP hz hS hl hlo => lv_iconst C.1 C.2.1 hd hv (h p e s m args below meth c H locs ls C hm hP hz hS hl hlo)
theorem bp_bipush {z : Int} {v : Int32} (hd : decode M.2.1 pc = .ok (.bipush z, 2)) (hv : (Int8.ofInt z).toInt32 = v) (h : Bp l G d M mc ms S' n' (pc + 2) lv (.int v :: st) S n c1 s1) : Bp l G d M mc ms S' n' pc lv st S n c1 s1 :=
  fun p e s m args below meth c H locs ls C hm hP hz hS hl hlo => lv_bipush C.1 C.2.1 hd hv (h p e s m args below meth c H locs ls C hm hP hz hS hl hlo)
theorem bp_sipush {z : Int} {v : Int32} (hd : decode M.2.1 pc = .ok (.sipush z, 3)) (hv : (Int16.ofInt z).toInt32 = v) (h : Bp l G d M mc ms S' n' (pc + 3) lv (.int v :: st) S n c1 s1) : Bp l G d M mc ms S' n' pc lv st S n c1 s1 :=
  fun p e s m args below meth c H locs ls C hm hP hz hS hl hlo => lv_sipush C.1 C.2.1 hd hv (h p e s m args below meth c H locs ls C hm hP hz hS hl hlo)
theorem bp_ldc {i : Nat} {v : Int32} (hd : decode M.2.1 pc = .ok (.ldc i, 2)) (hw : Cond.constant M.2.2.2.2 i v ∈ gW) (h : Bp l G d M mc ms S' n' (pc + 2) lv (.int v :: st) S n c1 s1) : Bp l G d M mc ms S' n' pc lv st S n c1 s1 :=
  fun p e s m args below meth c H locs ls C hm hP hz hS hl hlo => lv_ldc C.1 C.2.1 C.2.2.2.2.1 (C.2.2.2.2.2.1 _ hw) hd (h p e s m args below meth c H locs ls C hm hP hz hS hl hlo)
theorem bp_dup {a : Nat} (hd : decode M.2.1 pc = .ok (.dup, 1)) (h : Bp l G d M mc ms S' n' (pc + 1) lv (.ref a :: .ref a :: st) S n c1 s1) : Bp l G d M mc ms S' n' pc lv (.ref a :: st) S n c1 s1 :=
  fun p e s m args below meth c H locs ls C hm hP hz hS hl hlo => lv_dup C.1 C.2.1 hd rfl (h p e s m args below meth c H locs ls C hm hP hz hS hl hlo)
theorem bp_obj {a idx : Nat} (hd : decode M.2.1 pc = .ok (.invokespecial idx, 3)) (hk : Cond.methodLink M.2.2.2.2 idx Lib.objectInit ∈ gW) (h2 : Cond.instanceMethod Lib.objectInit ∈ gW) (h3 : Cond.code Lib.objectInit ⟨#[0xb1]⟩ 1 none ∈ gW) (hn : catS st ≤ 24 ∧ 1 ≤ d) (h : Bp l G d M mc ms S' n' (pc + 3) lv st S n c1 s1) : Bp l G d M mc ms S' n' pc lv (.ref a :: st) S n c1 s1 :=
  fun p e s m args below meth c H locs ls C hm hP hz hS hl hlo => W.objInit C.1 C.2.1 C.2.2.2.2.1 (C.2.2.2.2.2.1 _ hk) (C.2.2.2.2.2.1 _ h2) (C.2.2.2.2.2.1 _ h3) (g := F0 m pc ls ((.ref a :: st).map (tv G))) rfl (hl.1.trans C.2.2.2.1.symm) (a := G.2.1 a) (rest := st.map (tv G)) rfl hd hn.2 (by
    have e9 : ((st.map (tv G)).map fun v => v.category).sum = catS st := catS_tv G st
    show 2 * 0 + ((st.map (tv G)).map fun v => v.category).sum + 12 ≤ 96 * d
    rw [e9]; omega) (h p e s m args below meth c H locs ls C hm hP hz hS hl hlo)
theorem bp_ret (hM : M.2.2.2.1 = none) (hd : decode M.2.1 pc = .ok (.return_, 1)) : Bp l G d M mc ms S n pc lv [] S n mc ms :=
  fun p e s m args below meth c H locs ls C hm hP hz hS hl hlo => W.vret C.1 C.2.1 (C.2.2.1.trans hM) (fun t ht _ => ⟨⟨rfl, by rw [ht]; exact hP, by rw [ht]; exact hz⟩, hS.F ht⟩) hS.2.2 hd C.2.2.2.2.2.2.1
theorem bp_get {idx ci k a b : Nat} (hd : decode M.2.1 pc = .ok (.getfield idx, 3)) (hF : Fl M.2.2.2.2 idx ci k) (hk : (sh a).1 = 10 + ci) (ha : a < n) (hr : (sh a).2.2.getD k 0 = b + 2) (hin : (a, k) ∈ S) (h : Bp l G d M mc ms S' n' (pc + 3) lv (.ref b :: st) S n c1 s1) : Bp l G d M mc ms S' n' pc lv (.ref a :: st) S n c1 s1 := by
  intro p e s m args below meth c H locs ls C hm hP hz hS hl hlo
  obtain ⟨Cn, T, N, ty0, f1, f2, f3, f4, f5, f6⟩ := hF
  refine bw_get (rest := st.map (tv G)) C.1 C.2.1 C.2.2.2.2.1 C.2.2.2.2.2.1 C.2.2.2.2.2.2.2.1 ha hP hk f1 f2 f3 (sh_len hk f1) f4 (by rw [hr]; omega) hin hd ?_
  rw [hr, Nat.add_sub_cancel]
  exact h p e s m args below meth c H locs ls C hm hP hz hS hl hlo
theorem bp_put {idx ci k a b : Nat} (hg : GN G) (hd : decode M.2.1 pc = .ok (.putfield idx, 3)) (hF : Fl M.2.2.2.2 idx ci k) (hB : FB M.2.2.2.2 ci k) (hk : (sh a).1 = 10 + ci) (ha : a < n) (hn : n ≤ NN) (hr : (sh a).2.2.getD k 0 = b + 2) (h : Bp l G d M mc ms S' n' (pc + 3) lv st ((a, k) :: S) n c1 s1) : Bp l G d M mc ms S' n' pc lv (.ref b :: .ref a :: st) S n c1 s1 := by
  intro p e s m args below meth c H locs ls C hm hP hz hS hl hlo
  obtain ⟨Cn, T, N, ty0, f1, f2, f3, f4, f5, f6⟩ := hF
  obtain ⟨Cn', T', N', ty, g1, g2, g3, g4, g5⟩ := hB
  cases f1.symm.trans g1
  have := bw_put (rest := st.map (tv G)) (ls := ls) C.1 C.2.1 C.2.2.2.2.1 C.2.2.2.2.2.1 C.2.2.2.2.2.2.2.1 hg.1 hn ha hP hz hS hk f1 f2 ty0 f5 f6 f3 (sh_len hk f1) f4 (by
    rcases g2 with g2 | g2
    · exact Or.inl g2
    · exact Or.inr ⟨g2.1, hm, g2.2⟩) (by rw [hr]; omega) g3 g4 g5 hd (fun H1 locs1 hP1 hz1 hS1 => h p e s m args below meth c H1 locs1 ls C hm hP1 hz1 hS1 hl (loS_cons hlo ha))
  rw [hr, Nat.add_sub_cancel] at this
  exact this
theorem bw_dv {Cn : String} {T : u_T} {N ci : Nat} {ty : Nat → FieldType} (hk : (sh n).1 = 10 + ci) (hc : vwCl[ci]? = some (Cn, T, N)) (hdv : ∀ j, j < N → defaultValue (ty j) = dvK ((sh n).2.2.getD j 0)) (hlo : loS S n) : ∀ j, j < N → defaultValue (ty j) = vp_V ((List.range (sh n).2.1).map (pvS G S n)) j := by
  intro j hj
  have hl2 : j < (sh n).2.1 := by rw [sh_len hk hc]; exact hj
  have hno : (n, j) ∉ S := fun q => Nat.lt_irrefl n (hlo _ q)
  unfold vp_V
  rw [List.getD_eq_getElem?_getD, List.getElem?_map, List.getElem?_range hl2, Option.map_some, Option.getD_some, hdv j hj]
  unfold pvS dvK
  rw [if_neg hno]
theorem bp_new {Cn : String} {T : u_T} {N ci index : Nat} (hg : GN G) (hd : decode M.2.1 pc = .ok (.new index, 3)) (hcl : Cond.classLink M.2.2.2.2 index Cn ∈ gW) (hinst : Cond.instantiable Cn N ∈ gW) (hini : Cond.initialized Cn ∈ gW) (hc : vwCl[ci]? = some (Cn, T, N)) (hin : ∀ w ∈ u_ws Cn T N, w ∈ gW) (ty : Nat → FieldType) (hty : ∀ k, k < N → parseFieldDescriptor (T k).2.2.1 = some (ty k))
    (hk : (sh n).1 = 10 + ci) (hdv : ∀ j, j < N → defaultValue (ty j) = dvK ((sh n).2.2.getD j 0)) (hr : n < NN ∧ c1 + 1 ≤ mc ∧ s1 + N ≤ ms) (h : Bp l G d M mc ms S' n' (pc + 3) lv (.ref n :: st) S (n + 1) (c1 + 1) (s1 + N)) : Bp l G d M mc ms S' n' pc lv st S n c1 s1 := by
  intro p e s m args below meth c H locs ls C hm hP hz hS hl hlo
  exact bw_new C.1 C.2.1 C.2.2.2.2.1 C.2.2.2.2.2.1 C.2.2.2.2.2.2.2.1 hg.1 hr.1 hP hz hS hk hc hin ty hty hcl hinst hini (bw_dv hk hc hdv hlo) hr.2.1 hr.2.2 hd (fun H1 hP1 hz1 hS1 => h p e s m args below meth c H1 locs ls C hm hP1 hz1 hS1 hl (loS_up hlo (Nat.le_succ n)))
theorem bp_int {x : Int32} {N : Nat} (hg : GN G) (hd : decode M.2.1 pc = .ok (.newarray .int, 2)) (harr : Cond.arrayClass .int ∈ gW) (hk : (sh n).1 = 1 ∧ (sh n).2.1 = N) (h0 : ¬ x < 0) (hN : x.toNatClampNeg = N) (hr : n < NN ∧ N ≤ 100000 ∧ c1 + 1 ≤ mc ∧ s1 + N ≤ ms) (h : Bp l G d M mc ms S' n' (pc + 2) lv (.ref n :: st) S (n + 1) (c1 + 1) (s1 + N)) : Bp l G d M mc ms S' n' pc lv (.int x :: st) S n c1 s1 := by
  intro p e s m args below meth c H locs ls C hm hP hz hS hl hlo
  obtain ⟨hk, rfl⟩ := hk
  exact bw_int (rest := st.map (tv G)) C.1 C.2.1 C.2.2.2.2.2.1 C.2.2.2.2.2.2.2.1 hg.1 hr.1 hP hz hS harr hk h0 hN (by show (sh n).2.1 * 4 ≤ _; omega) hr.2.2.1 hr.2.2.2 hd (fun H1 hP1 hz1 hS1 => h p e s m args below meth c H1 locs ls C hm hP1 hz1 hS1 hl (loS_up hlo (Nat.le_succ n)))
theorem bp_byte {x : Int32} {N : Nat} (hg : GN G) (hd : decode M.2.1 pc = .ok (.newarray .byte, 2)) (harr : Cond.arrayClass .byte ∈ gW) (hk : (sh n).1 = 0 ∧ (sh n).2.1 = N) (h0 : ¬ x < 0) (hN : x.toNatClampNeg = N) (hr : n < NN ∧ N ≤ 100000 ∧ c1 + 1 ≤ mc ∧ s1 + N ≤ ms) (h : Bp l G d M mc ms S' n' (pc + 2) lv (.ref n :: st) S (n + 1) (c1 + 1) (s1 + N)) : Bp l G d M mc ms S' n' pc lv (.int x :: st) S n c1 s1 := by
  intro p e s m args below meth c H locs ls C hm hP hz hS hl hlo
  obtain ⟨hk, rfl⟩ := hk
  exact bw_byte (rest := st.map (tv G)) C.1 C.2.1 C.2.2.2.2.2.1 C.2.2.2.2.2.2.2.1 hg.1 hr.1 hP hz hS harr hk h0 hN (by show (sh n).2.1 * 1 ≤ _; omega) hr.2.2.1 hr.2.2.2 hd (fun H1 hP1 hz1 hS1 => h p e s m args below meth c H1 locs ls C hm hP1 hz1 hS1 hl (loS_up hlo (Nat.le_succ n)))
theorem bp_long {x : Int32} {N : Nat} (hg : GN G) (hd : decode M.2.1 pc = .ok (.newarray .long, 2)) (harr : Cond.arrayClass .long ∈ gW) (hk : (sh n).1 = 2 ∧ (sh n).2.1 = N) (h0 : ¬ x < 0) (hN : x.toNatClampNeg = N) (hr : n < NN ∧ N ≤ 100000 ∧ c1 + 1 ≤ mc ∧ s1 + N ≤ ms) (h : Bp l G d M mc ms S' n' (pc + 2) lv (.ref n :: st) S (n + 1) (c1 + 1) (s1 + N)) : Bp l G d M mc ms S' n' pc lv (.int x :: st) S n c1 s1 := by
  intro p e s m args below meth c H locs ls C hm hP hz hS hl hlo
  obtain ⟨hk, rfl⟩ := hk
  exact bw_long (rest := st.map (tv G)) C.1 C.2.1 C.2.2.2.2.2.1 C.2.2.2.2.2.2.2.1 hg.1 hr.1 hP hz hS harr hk h0 hN (by show (sh n).2.1 * 8 ≤ _; omega) hr.2.2.1 hr.2.2.2 hd (fun H1 hP1 hz1 hS1 => h p e s m args below meth c H1 locs ls C hm hP1 hz1 hS1 hl (loS_up hlo (Nat.le_succ n)))
theorem bp_multi {index N K : Nat} {x y : Int32} (hg : GN G) (hd : decode M.2.1 pc = .ok (.multianewarray index 2, 4)) (hcl : Cond.classLink M.2.2.2.2 index "[[I" ∈ gW) (hk : (sh n).1 = 4 ∧ (sh n).2.1 = N) (hrow : ∀ i, i < N → (sh (n + 1 + i)).1 = 1 ∧ (sh (n + 1 + i)).2.1 = K ∧ (sh n).2.2.getD i 0 = n + 1 + i) (h0 : ¬ x < 0 ∧ ¬ y < 0) (hN : x.toNatClampNeg = N) (hM : y.toNatClampNeg = K) (hr : N ≤ 1000 ∧ K ≤ 1000)
    (hq : n + 1 + N ≤ NN ∧ c1 + 1 + N ≤ mc ∧ s1 + N + N * K ≤ ms) (h : Bp l G d M mc ms S' n' (pc + 4) lv (.ref n :: st) (rwS n S N) (n + 1 + N) (c1 + 1 + N) (s1 + N + N * K)) : Bp l G d M mc ms S' n' pc lv (.int y :: .int x :: st) S n c1 s1 := by
  intro p e s m args below meth c H locs ls C hm hP hz hS hl hlo
  exact bw_multi (rest := st.map (tv G)) C.1 C.2.1 C.2.2.2.2.1 C.2.2.2.2.2.1 C.2.2.2.2.2.2.2.1 hg.1 hq.1 hP hz hS hcl (hg.2 s C.2.2.2.2.2.2.2.2.1).1 hk (fun i q => Nat.lt_irrefl n (hlo _ q)) hrow h0 hN hM hr hq.2.1 hq.2.2 hd (fun H1 locs1 hP1 hz1 hS1 => h p e s m args below meth c H1 locs1 ls C hm hP1 hz1 hS1 hl (loS_rw (loS_up hlo (by omega)) (by omega) N))
theorem bp_anew {index N : Nat} {x : Int32} (hg : GN G) (hd : decode M.2.1 pc = .ok (.anewarray index, 3)) (hcl : Cond.classLink M.2.2.2.2 index RX7 ∈ gW) (hk : (sh n).1 = 3 ∧ (sh n).2.1 = N) (h0 : ¬ x < 0) (hN : x.toNatClampNeg = N) (hr : n < NN ∧ N ≤ 100000 ∧ c1 + 1 ≤ mc ∧ s1 + N ≤ ms) (h : Bp l G d M mc ms S' n' (pc + 3) lv (.ref n :: st) S (n + 1) (c1 + 1) (s1 + N)) : Bp l G d M mc ms S' n' pc lv (.int x :: st) S n c1 s1 := by
  intro p e s m args below meth c H locs ls C hm hP hz hS hl hlo
  obtain ⟨hk, rfl⟩ := hk
  exact bw_anew (rest := st.map (tv G)) C.1 C.2.1 C.2.2.2.2.1 C.2.2.2.2.2.1 C.2.2.2.2.2.2.2.1 hg.1 hr.1 hP hz hS hcl (hg.2 s C.2.2.2.2.2.2.2.2.1).2.1 hk (fun i q => Nat.lt_irrefl n (hlo _ q)) rfl h0 hN (by omega) hr.2.2.1 hr.2.2.2 hd (fun H1 hP1 hz1 hS1 => h p e s m args below meth c H1 locs ls C hm hP1 hz1 hS1 hl (loS_up hlo (Nat.le_succ n)))
theorem bp_aast {a b i : Nat} {x : Int32} (hg : GN G) (hd : decode M.2.1 pc = .ok (.aastore, 1)) (hk : (sh a).1 = 3) (ha : a < n) (hi : x = jI (i : Int)) (hi2 : i < (sh a).2.1 ∧ i < 1000) (hr : (sh a).2.2.getD i 0 = b) (hb : b < n ∧ n ≤ NN) (hbk : (sh b).1 = 15) (h : Bp l G d M mc ms S' n' (pc + 1) lv st ((a, i) :: S) n c1 s1) : Bp l G d M mc ms S' n' pc lv (.ref b :: .int x :: .ref a :: st) S n c1 s1 := by
  intro p e s m args below meth c H locs ls C hm hP hz hS hl hlo
  have := bw_aast (r := (RX7, TX7, 8)) (ci := 5) (rest := st.map (tv G)) (ls := ls) C.1 C.2.1 C.2.2.2.2.2.2.2.1 hg.1 hb.2 ha hP hz hS hk rfl hi hi2 (by rw [hr]; exact hb.1) (by rw [hr]; exact hbk) rfl hd (fun H1 locs1 hP1 hz1 hS1 => h p e s m args below meth c H1 locs1 ls C hm hP1 hz1 hS1 hl (loS_cons hlo ha))
  rw [hr] at this
  exact this
theorem bp_call {host : String} {M' : Me} {idx np a d' mc' ms' : Nat} {av rest : List Value} {S2 : List (Nat × Nat)} {n2 : Nat} (hd : decode M.2.1 pc = .ok (.invokespecial idx, 3)) (hm' : MeC M') (hnp : MeN M' np) (hin : Cond.instanceMethod M'.1 ∈ gW) (hret : M'.2.2.2.1 = none) (hy1 : M'.1.name = "<init>")
    (hk : Cond.methodLink M.2.2.2.2 idx M'.1 ∈ gW ∨ ∀ U, G.2.2.2.2 U → va_Nw (.methodLinkNest M.2.2.2.2 idx M'.1 host) U) (hst : st = av.reverse ++ .ref a :: rest) (hn : av.length = np ∧ catS rest ≤ 24) (hR : d' + 1 ≤ d ∧ c1 + mc' ≤ mc ∧ s1 + ms' ≤ ms) (h : loS S n → MB l G d' mc' ms' M' (.ref a :: av) S n S2 n2) (hlo2 : loS S n → loS S2 n2)
    (k : Bp l G d M mc ms S' n' (pc + 3) lv rest S2 n2 (c1 + mc') (s1 + ms')) : Bp l G d M mc ms S' n' pc lv st S n c1 s1 := by
  intro p e s m args below meth c H locs ls C hm hP hz hS hl hlo
  refine bw_call C.1 C.2.1 (hl.1.trans C.2.2.2.1.symm) C.2.2.2.2.1 C.2.2.2.2.2.1 C.2.2.2.2.2.2.2 hm' hnp hin hret hy1 (hk.imp id (fun q => q s C.2.2.2.2.2.2.2.2.1)) hst hn ⟨hR.1, by show 95 + 96 * d' ≤ 96 * d; omega, hR.2.1, hR.2.2⟩ hP hz hS hd (h hlo) (fun H1 locs1 hP1 hz1 hS1 => k p e s m args below meth c H1 locs1 ls C hm hP1 hz1 hS1 hl (hlo2 hlo))
/-- a constructor's contract from its first place -/
theorem mb_of {av : List Value} (hc : MeC M) (ho : M.2.2.2.2 = M.1.cls) (hnm : M.1.name = "<init>") (hlen : (lg_sl av).length ≤ M.2.2.1) (hlo : loS S n) (h : Bp l G d M mc ms S' n' 0 (lv_args 0 av) [] S n 0 0) : MB l G d mc ms M av S n S' n' := by
  refine Met.ofW (cc := M.2.1) (maxL := M.2.2.1) (ret := M.2.2.2.1) hc.2.2.2.2 rfl ?_
  intro p e s m args below meth c s1 B hml hv
  obtain ⟨rfl, hP, hz, hKx⟩ := hv
  have hts := atoms_spec (ws := wsM M) B.pre
  have hown : s.vm.findClass M.1.cls = some m.cls := findClass_of_methodNamed B.named
  have hl := lv_entry (av.map (tv G)) (n := M.2.2.1) (by rw [lg_sl_tv]; exact hlen)
  rw [lg_entry_eq]
  generalize (lg_sl (av.map (tv G)) ++ List.replicate (M.2.2.1 - (lg_sl (av.map (tv G))).length) Slot.unset).toArray = ls at hl ⊢
  rw [lv_args_tv] at hl
  exact h p e s m _ below meth c s.heap [] ls ⟨B.exec, B.bytes, B.returns, hml, by rw [ho]; exact hown, fun w hw => hts w (List.mem_cons_of_mem _ hw), B.notSynchronized, hKx⟩ ((name_of_methodNamed B.named B.method).1.trans hnm) hP hz va_S.rf hl hlo
end BPs
