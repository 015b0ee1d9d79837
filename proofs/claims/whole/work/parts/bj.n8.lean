-- a row of rows made while the world is made
def nsA (G : GT) (U : State) : Prop := ∃ kA : Class, U.vm.classes[G.2.2.1 4]? = some kA ∧ kA.kind = .array (G.2.2.1 1) (.array .int)
theorem nsA.moved {G : GT} {U U' : State} (hvm : U.vm.Alike U'.vm) (h : nsA G U) : nsA G U' := by
  obtain ⟨kA, h1, h2⟩ := h
  obtain ⟨k', hk', he⟩ := hvm.2.2 _ _ h1
  exact ⟨k', hk', by rw [he]; exact h2⟩
def rwS (a : Nat) (S : List (Nat × Nat)) : Nat → List (Nat × Nat)
  | 0 => S
  | i + 1 => (a, i) :: rwS a S i
section BWr
variable {E : CtlPost} {e : Env} {d : Bool} {acts : List Action} {s : State}
theorem ms_one {cI cE : ClassId} {kC : Class} {y : Int32} {Q : Addr → Pre} (hk : s.vm.classes[cI]? = some kC) (hkind : kC.kind = .array cE .int) (h0 : ¬ y < 0) (hl : ¬ y.toNatClampNeg > e.platform.arrayLengthLimit) (hh : ¬ y.toNatClampNeg * componentBytes .int > e.platform.maxHeapBytes)
    (h1 : s.heap.size < e.platform.maxCells) (h2 : s.slotsUsed + y.toNatClampNeg ≤ e.platform.maxSlots) (hq : ∀ acts', Q s.heap.size d acts' (s.pushCell (arrV cI y.toNatClampNeg (fun _ => .int 0)))) : wp (Op.multianewarray.make cI [y]) Q E e d acts s := by
  rw [Op.multianewarray.make]
  simp only [wp_bind', W.ite, h0, if_false, wp_pure', W.theClass, hk, hkind, Option.some.injEq, exists_eq_left']
  refine W.newArray_of hk hkind hl hh h1 h2 rfl (fun acts' => ?_)
  have := hq acts'
  rw [← arrV_new] at this
  exact this
/-- rows by what holds once i of them are made -/
theorem ms_rows {cA cI cE : ClassId} {kA kC : Class} {x y : Int32} {Q : Addr → Pre} (I : Nat → State → Prop) (hk : s.vm.classes[cA]? = some kA) (hkind : kA.kind = .array cI (.array .int)) (hkindC : kC.kind = .array cE .int) (hx : ¬ x < 0) (hy : ¬ y < 0)
    (hl : ¬ x.toNatClampNeg > e.platform.arrayLengthLimit ∧ ¬ y.toNatClampNeg > e.platform.arrayLengthLimit) (hh : ¬ x.toNatClampNeg * componentBytes (.array .int) > e.platform.maxHeapBytes ∧ ¬ y.toNatClampNeg * componentBytes .int > e.platform.maxHeapBytes)
    (h1 : s.heap.size < e.platform.maxCells) (h2 : s.slotsUsed + x.toNatClampNeg ≤ e.platform.maxSlots) (hI0 : I 0 (s.pushCell (arrV cA x.toNatClampNeg (fun _ => .null))))
    (hstep : ∀ i s', i < x.toNatClampNeg → I i s' → s'.vm.classes[cI]? = some kC ∧ s'.heap.size < e.platform.maxCells ∧ s'.slotsUsed + y.toNatClampNeg ≤ e.platform.maxSlots ∧
      ∃ cell : Cell, (s'.pushCell (arrV cI y.toNatClampNeg (fun _ => .int 0))).heap[s.heap.size]? = some cell ∧ cell.vm ≠ .unknown ∧ i < cell.slots.size ∧ (s'.pushCell (arrV cI y.toNatClampNeg (fun _ => .int 0))).fitsSlot cell.cls cell.vm i (.ref s'.heap.size) = true ∧ I (i + 1) ((s'.pushCell (arrV cI y.toNatClampNeg (fun _ => .int 0))).setCell s.heap.size (cell.setSlot i (.ref s'.heap.size))))
    (hq : ∀ s' d' acts', I x.toNatClampNeg s' → Q s.heap.size d' acts' s') : wp (Op.multianewarray.make cA [x, y]) Q E e d acts s := by
  have hno : ([y].find? (fun z => decide (z < 0))) = none := by simp [hy]
  rw [Op.multianewarray.make]
  simp only [wp_bind', W.ite, hx, if_false, wp_pure', W.theClass, hk, hkind, Option.some.injEq, exists_eq_left']
  refine W.newArray_of hk hkind hl.1 hh.1 h1 h2 rfl (fun acts' => ?_)
  have e0 : ({ cls := cA, slots := Array.replicate x.toNatClampNeg .null } : Cell) = arrV cA x.toNatClampNeg (fun _ => .null) := arrV_new _ _ _
  rw [e0]
  simp only [hno, ite_self]
  rw [wp_bind', Std.Legacy.Range.forIn_eq_forIn_range']
  generalize hN : x.toNatClampNeg = N at *
  have hsz : ([:N] : Std.Legacy.Range).size = N := by simp [Std.Legacy.Range.size]
  rw [hsz]
  refine wp_forIn_inv (fun rest s' => ∃ i, i + rest.length = N ∧ rest = List.range' i rest.length ∧ I i s') _ _ ⟨0, by simp, by simp, hI0⟩ ?_ ?_
  · rintro a rest s' d' acts2 Q' ⟨i, hlen, hr, hI⟩ hnext
    have hr2 : a = i ∧ rest = List.range' (i + 1) rest.length := by
      rw [List.length_cons, List.range'_succ] at hr
      exact List.cons.inj hr
    obtain ⟨rfl, hr2⟩ := hr2
    have hi : a < N := by rw [List.length_cons] at hlen; omega
    obtain ⟨g1, g2, g3, cell, g4, g5, g6, g7, g8⟩ := hstep a s' hi hI
    simp only [wp_bind']
    refine ms_one g1 hkindC hy hl.2 hh.2 g2 g3 (fun acts3 => ?_)
    simp only [wp_bind', W.writeLoc, wp_pure']
    exact ⟨cell, g4, g5, g6, g7, hnext _ _ _ ⟨a + 1, by rw [List.length_cons] at hlen; omega, hr2, g8⟩⟩
  · rintro s' d' acts2 ⟨i, hlen, -, hI⟩
    simp only [wp_pure']
    rw [List.length_nil] at hlen
    subst hlen
    exact hq _ _ _ hI
end BWr
