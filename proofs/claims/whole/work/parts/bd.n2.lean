-- a cell made: its address is the next one
section BWn
variable {p : Program} {l : Launch} {e : Env} {R : Room} {s : State} {m : MethodId} {args : Array Value} {below : List Frame} {meth : Method} {c : Code} {H : Heap} {locs : List Loc} {cells slots : Nat} {Q : State → Prop} {G : GT} {S : List (Nat × Nat)} {n : Nat} {cc : ByteArray} {pc : Nat} {ls : Array Slot} {rest : List Value}
def Adr (G : GT) : Prop := ∀ a, a < NN → G.2.1 a = G.2.2.2.1 + a
theorem bw_new {own C : String} {T : u_T} {N ci index : Nat} (hx : p.tables.exec = Jvm.exec) (hb : c.code = cc) (hown : s.vm.findClass own = some m.cls) (hts : ∀ w ∈ gW, w.before args s = true) (hK : va_K G.1 vwCl (tyL G) s) (hg : Adr G) (hn : n < NN) (hP : va_P G.1 vwCl (wBd G S n) H) (hz : H.size = G.2.2.2.1 + n) (hS : va_S (aX G) s.heap H locs)
    (hk : (sh n).1 = 10 + ci) (hc : vwCl[ci]? = some (C, T, N)) (hin : ∀ w ∈ u_ws C T N, w ∈ gW) (ty : Nat → FieldType) (hty : ∀ k, k < N → parseFieldDescriptor (T k).2.2.1 = some (ty k)) (hcl : Cond.classLink own index C ∈ gW) (hinst : Cond.instantiable C N ∈ gW) (hini : Cond.initialized C ∈ gW)
    (hfs : ∀ j, j < N → defaultValue (ty j) = vp_V ((List.range (sh n).2.1).map (pvS G S n)) j) (hcells : cells + 1 ≤ R.cells) (hslots : slots + N ≤ R.slots) (hdg : decode cc pc = .ok (.new index, 3))
    (kk : ∀ H1 : Heap, va_P G.1 vwCl (wBd G S (n + 1)) H1 → H1.size = G.2.2.2.1 + (n + 1) → va_S (aX G) s.heap H1 locs → W p l e R s m args below meth c H1 locs (cells + 1) (slots + N) Q (F0 m (pc + 3) ls (.ref (G.2.1 n) :: rest))) : W p l e R s m args below meth c H locs cells slots Q (F0 m pc ls rest) := by
  have hKn := hK.1 ci _ hc
  have hgn := hg n hn
  refine W.newcK hx hb hown (hts _ hcl) (hts _ hinst) (hts _ hini) rfl hdg hcells hslots hKn.2.1 (h := G.2.1 n) (by rw [hgn]; exact hz) fun H1 kC hkC e1 z1 o1 => ?_
  have o2 : ∀ q, q < H.size → H1[q]? = H[q]? := fun q hq => o1 q (by rw [hgn, ← hz]; exact hq)
  have hk9 : ∀ (k : Nat) (x : Nat × va_E), (wBd G S n)[k]? = some x → H1[x.1]? = H[x.1]? := fun k x hx => o2 x.1 ((hP k x hx).lt)
  refine kk H1 ?_ (by rw [z1, hgn]; omega) ⟨Nat.le_trans hS.1 (by rw [z1, hgn, ← hz]; omega), fun x h1 h2 => (o2 x (Nat.lt_of_lt_of_le h1 hS.1)).trans (hS.2.1 x h1 h2), hS.2.2⟩
  rw [wBd_succ]
  refine (hP.kept hk9).app (fun k x hx => ?_)
  have hz9 : k < 1 := (List.getElem?_eq_some_iff.mp hx).1
  rw [show k = 0 by omega] at hx
  cases hx
  have e9 : clS G S n = .inr (ci, (List.range (sh n).2.1).map (pvS G S n)) := by
    unfold clS
    rw [hk, if_neg (by omega), if_neg (by omega), if_neg (by omega), show 10 + ci - 10 = ci by omega]
  show va_at G.1 vwCl (G.2.1 n, clS G S n) H1
  rw [e9]
  exact ⟨_, hc, (u_born ty hts hin hKn hkC e1 hty).to hfs⟩
theorem bw_newa {atype : ArrayType} {kd : Nat} {x : Int32} {ty : FieldType} (hx : p.tables.exec = Jvm.exec) (hb : c.code = cc) (hts : ∀ w ∈ gW, w.before args s = true) (hK : va_K G.1 vwCl (tyL G) s) (hg : Adr G) (hn : n < NN) (hP : va_P G.1 vwCl (wBd G S n) H) (hz : H.size = G.2.2.2.1 + n) (hS : va_S (aX G) s.heap H locs)
    (hty : newarray.typeOf atype = ty) (ht : (tyL G)[kd]? = some (G.2.2.1 kd, ty)) (hra : ∀ cA, va_RA s cA ty → va_RA s (G.2.2.1 kd) ty → cA = G.2.2.1 kd) (hra2 : ∀ cA, s.vm.findClass ("[" ++ ty.toString) = some cA → va_RA s cA ty) (harr : Cond.arrayClass ty ∈ gW) (ha : ∀ cA : ClassId, va_at G.1 vwCl (G.2.1 n, clS G S n) = fun H => H[G.2.1 n]? = some (arrV (G.2.2.1 kd) (sh n).2.1 (fun _ => defaultValue ty)))
    (h0 : ¬ x < 0) (hN : x.toNatClampNeg = (sh n).2.1) (hbytes : (sh n).2.1 * componentBytes ty ≤ 536870912) (hcells : cells + 1 ≤ R.cells) (hslots : slots + (sh n).2.1 ≤ R.slots) (hdg : decode cc pc = .ok (.newarray atype, 2))
    (kk : ∀ H1 : Heap, va_P G.1 vwCl (wBd G S (n + 1)) H1 → H1.size = G.2.2.2.1 + (n + 1) → va_S (aX G) s.heap H1 locs → W p l e R s m args below meth c H1 locs (cells + 1) (slots + (sh n).2.1) Q (F0 m (pc + 2) ls (.ref (G.2.1 n) :: rest))) : W p l e R s m args below meth c H locs cells slots Q (F0 m pc ls (.int x :: rest)) := by
  have hgn := hg n hn
  subst hty
  refine va_newaK hx hb (hts _ harr) rfl hdg rfl h0 hN hbytes hcells hslots (h := G.2.1 n) (by rw [hgn]; exact hz) fun H1 cA e1 z1 o1 hAr hNm => ?_
  have o2 : ∀ q, q < H.size → H1[q]? = H[q]? := fun q hq => o1 q (by rw [hgn, ← hz]; exact hq)
  have hk9 : ∀ (k : Nat) (x : Nat × va_E), (wBd G S n)[k]? = some x → H1[x.1]? = H[x.1]? := fun k x hx => o2 x.1 ((hP k x hx).lt)
  refine kk H1 ?_ (by rw [z1, hgn]; omega) ⟨Nat.le_trans hS.1 (by rw [z1, hgn, ← hz]; omega), fun x h1 h2 => (o2 x (Nat.lt_of_lt_of_le h1 hS.1)).trans (hS.2.1 x h1 h2), hS.2.2⟩
  rw [wBd_succ]
  refine (hP.kept hk9).app (fun k x hx => ?_)
  have hz9 : k < 1 := (List.getElem?_eq_some_iff.mp hx).1
  rw [show k = 0 by omega] at hx
  cases hx
  rw [ha cA]
  have ec : cA = G.2.2.1 kd := hra cA (hra2 cA hNm) (hK.2 kd _ ht).2
  rw [← ec]
  exact e1
end BWn
