-- newarray while the world is made, by kinds
section BWk
variable {p : Program} {l : Launch} {e : Env} {R : Room} {s : State} {m : MethodId} {args : Array Value} {below : List Frame} {meth : Method} {c : Code} {H : Heap} {locs : List Loc} {cells slots : Nat} {Q : State → Prop} {G : GT} {S : List (Nat × Nat)} {n : Nat} {cc : ByteArray} {pc : Nat} {ls : Array Slot} {rest : List Value}
theorem bw_int {x : Int32} (hx : p.tables.exec = Jvm.exec) (hb : c.code = cc) (hts : ∀ w ∈ gW, w.before args s = true) (hK : va_K G.1 vwCl (tyL G) s) (hg : Adr G) (hn : n < NN) (hP : va_P G.1 vwCl (wBd G S n) H) (hz : H.size = G.2.2.2.1 + n) (hS : va_S (aX G) s.heap H locs) (harr : Cond.arrayClass .int ∈ gW) (hk : (sh n).1 = 1)
    (h0 : ¬ x < 0) (hN : x.toNatClampNeg = (sh n).2.1) (hbytes : (sh n).2.1 * componentBytes .int ≤ 536870912) (hcells : cells + 1 ≤ R.cells) (hslots : slots + (sh n).2.1 ≤ R.slots) (hdg : decode cc pc = .ok (.newarray .int, 2))
    (kk : ∀ H1 : Heap, va_P G.1 vwCl (wBd G S (n + 1)) H1 → H1.size = G.2.2.2.1 + (n + 1) → va_S (aX G) s.heap H1 locs → W p l e R s m args below meth c H1 locs (cells + 1) (slots + (sh n).2.1) Q (F0 m (pc + 2) ls (.ref (G.2.1 n) :: rest))) : W p l e R s m args below meth c H locs cells slots Q (F0 m pc ls (.int x :: rest)) := by
  refine bw_newa (atype := .int) (kd := 1) (ty := .int) hx hb hts hK hg hn hP hz hS rfl rfl (fun cA h1 h2 => Option.some.inj (h1.symm.trans h2)) (fun cA h => h) harr (fun cA => ?_) h0 hN hbytes hcells hslots hdg kk
  unfold clS
  rw [hk]
  rfl
theorem bw_byte {x : Int32} (hx : p.tables.exec = Jvm.exec) (hb : c.code = cc) (hts : ∀ w ∈ gW, w.before args s = true) (hK : va_K G.1 vwCl (tyL G) s) (hg : Adr G) (hn : n < NN) (hP : va_P G.1 vwCl (wBd G S n) H) (hz : H.size = G.2.2.2.1 + n) (hS : va_S (aX G) s.heap H locs) (harr : Cond.arrayClass .byte ∈ gW) (hk : (sh n).1 = 0)
    (h0 : ¬ x < 0) (hN : x.toNatClampNeg = (sh n).2.1) (hbytes : (sh n).2.1 * componentBytes .byte ≤ 536870912) (hcells : cells + 1 ≤ R.cells) (hslots : slots + (sh n).2.1 ≤ R.slots) (hdg : decode cc pc = .ok (.newarray .byte, 2))
    (kk : ∀ H1 : Heap, va_P G.1 vwCl (wBd G S (n + 1)) H1 → H1.size = G.2.2.2.1 + (n + 1) → va_S (aX G) s.heap H1 locs → W p l e R s m args below meth c H1 locs (cells + 1) (slots + (sh n).2.1) Q (F0 m (pc + 2) ls (.ref (G.2.1 n) :: rest))) : W p l e R s m args below meth c H locs cells slots Q (F0 m pc ls (.int x :: rest)) := by
  refine bw_newa (atype := .byte) (kd := 0) (ty := .byte) hx hb hts hK hg hn hP hz hS rfl rfl (fun cA h1 h2 => Option.some.inj (h1.symm.trans h2)) (fun cA h => h) harr (fun cA => ?_) h0 hN hbytes hcells hslots hdg kk
  unfold clS
  rw [hk]
  rfl
theorem bw_long {x : Int32} (hx : p.tables.exec = Jvm.exec) (hb : c.code = cc) (hts : ∀ w ∈ gW, w.before args s = true) (hK : va_K G.1 vwCl (tyL G) s) (hg : Adr G) (hn : n < NN) (hP : va_P G.1 vwCl (wBd G S n) H) (hz : H.size = G.2.2.2.1 + n) (hS : va_S (aX G) s.heap H locs) (harr : Cond.arrayClass .long ∈ gW) (hk : (sh n).1 = 2)
    (h0 : ¬ x < 0) (hN : x.toNatClampNeg = (sh n).2.1) (hbytes : (sh n).2.1 * componentBytes .long ≤ 536870912) (hcells : cells + 1 ≤ R.cells) (hslots : slots + (sh n).2.1 ≤ R.slots) (hdg : decode cc pc = .ok (.newarray .long, 2))
    (kk : ∀ H1 : Heap, va_P G.1 vwCl (wBd G S (n + 1)) H1 → H1.size = G.2.2.2.1 + (n + 1) → va_S (aX G) s.heap H1 locs → W p l e R s m args below meth c H1 locs (cells + 1) (slots + (sh n).2.1) Q (F0 m (pc + 2) ls (.ref (G.2.1 n) :: rest))) : W p l e R s m args below meth c H locs cells slots Q (F0 m pc ls (.int x :: rest)) := by
  refine bw_newa (atype := .long) (kd := 2) (ty := .long) hx hb hts hK hg hn hP hz hS rfl rfl (fun cA h1 h2 => Option.some.inj (h1.symm.trans h2)) (fun cA h => h) harr (fun cA => ?_) h0 hN hbytes hcells hslots hdg kk
  unfold clS
  rw [hk]
  rfl
end BWk
