-- a row of references made
section BWq
variable {p : Program} {l : Launch} {e : Env} {R : Room} {s : State} {m : MethodId} {args : Array Value} {below : List Frame} {meth : Method} {c : Code} {H : Heap} {locs : List Loc} {cells slots : Nat} {Q : State → Prop} {G : GT} {S : List (Nat × Nat)} {n : Nat} {cc : ByteArray} {pc : Nat} {ls : Array Slot} {rest : List Value}
theorem bw_anew {own C : String} {index : Nat} {x : Int32} (hx : p.tables.exec = Jvm.exec) (hb : c.code = cc) (hown : s.vm.findClass own = some m.cls) (hts : ∀ w ∈ gW, w.before args s = true) (hK : va_K G.1 vwCl (tyL G) s) (hg : Adr G) (hn : n < NN) (hP : va_P G.1 vwCl (wBd G S n) H) (hz : H.size = G.2.2.2.1 + n) (hS : va_S (aX G) s.heap H locs)
    (hcl : Cond.classLink own index C ∈ gW) (hover : va_AO C s) (hk : (sh n).1 = 3) (hSn : ∀ i, (n, i) ∉ S) (ht : (tyL G)[3]? = some (G.2.2.1 3, .object C)) (h0 : ¬ x < 0) (hN : x.toNatClampNeg = (sh n).2.1) (hbytes : (sh n).2.1 * 4 ≤ 536870912) (hcells : cells + 1 ≤ R.cells) (hslots : slots + (sh n).2.1 ≤ R.slots) (hdg : decode cc pc = .ok (.anewarray index, 3))
    (kk : ∀ H1 : Heap, va_P G.1 vwCl (wBd G S (n + 1)) H1 → H1.size = G.2.2.2.1 + (n + 1) → va_S (aX G) s.heap H1 locs → W p l e R s m args below meth c H1 locs (cells + 1) (slots + (sh n).2.1) Q (F0 m (pc + 3) ls (.ref (G.2.1 n) :: rest))) : W p l e R s m args below meth c H locs cells slots Q (F0 m pc ls (.int x :: rest)) := by
  have hgn := hg n hn
  rw [← hN] at hbytes hslots kk
  refine W.anew hx hb hown (hts _ hcl) (va_AO.use hover) rfl hdg rfl h0 hbytes hcells hslots fun cA kA comp f1 f2 f3 f4 => ?_
  generalize hH1 : H.push ({ cls := cA, slots := Array.replicate x.toNatClampNeg .null, vm := .none } : Cell) = H1
  have z1 : H1.size = H.size + 1 := by rw [← hH1, Array.size_push]
  have e1 : H1[H.size]? = some (arrV cA x.toNatClampNeg (fun _ => .null)) := by rw [← hH1, Array.getElem?_push_size, ← arrV_new]
  have o1 : ∀ q : Nat, q < H.size → H1[q]? = H[q]? := fun q hq => by rw [← hH1, Array.getElem?_push, if_neg (Nat.ne_of_lt hq)]
  have hk9 : ∀ (k : Nat) (x : Nat × va_E), (wBd G S n)[k]? = some x → H1[x.1]? = H[x.1]? := fun k x hx => o1 x.1 ((hP k x hx).lt)
  have hs9 : H.size = G.2.1 n := hz.trans hgn.symm
  obtain ⟨kA', comp', r1, r2, r3, r4⟩ := (hK.2 3 _ ht).2
  have ec : cA = G.2.2.1 3 := Option.some.inj (f1.symm.trans r4)
  have kk := kk H1 ?_ (by rw [z1, hz]; omega) ⟨Nat.le_trans hS.1 (by omega), fun x h1 h2 => (o1 x (Nat.lt_of_lt_of_le h1 hS.1)).trans (hS.2.1 x h1 h2), hS.2.2⟩
  · rw [hs9]
    exact kk
  · rw [wBd_succ]
    refine (hP.kept hk9).app (fun k y hy => ?_)
    have hz9 : k < 1 := (List.getElem?_eq_some_iff.mp hy).1
    rw [show k = 0 by omega] at hy
    cases hy
    have e9 : clS G S n = .inl (G.2.2.1 3, (sh n).2.1, .inr (.inr (.inr (.inr (fun _ => none))))) := by
      unfold clS
      rw [hk, if_neg (by omega), if_neg (by omega), if_pos (by omega)]
      congr 7
      funext i
      rw [if_neg (hSn i)]
    show va_at G.1 vwCl (G.2.1 n, clS G S n) H1
    rw [e9]
    show H1[G.2.1 n]? = some (vp_cell _ _)
    rw [vp_cell_q, ← hs9, ← ec, ← hN]
    exact e1
end BWq
