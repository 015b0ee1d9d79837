-- a row of rows of ints: the instruction
section BWm
variable {p : Program} {l : Launch} {e : Env} {R : Room} {s : State} {m : MethodId} {args : Array Value} {below : List Frame} {meth : Method} {c : Code} {H : Heap} {locs : List Loc} {cells slots : Nat} {G : GT} {S : List (Nat × Nat)} {n : Nat}
theorem wBd_pushed {cell : Cell} (hP : va_P G.1 vwCl (wBd G S n) H) (hat : va_at G.1 vwCl (G.2.1 n, clS G S n) (H.push cell)) : va_P G.1 vwCl (wBd G S (n + 1)) (H.push cell) := by
  have o1 : ∀ q : Nat, q < H.size → (H.push cell)[q]? = H[q]? := fun q hq => by rw [Array.getElem?_push, if_neg (Nat.ne_of_lt hq)]
  rw [wBd_succ]
  refine (hP.kept (fun k x hx => o1 x.1 ((hP k x hx).lt))).app (fun k y hy => ?_)
  have hz9 : k < 1 := (List.getElem?_eq_some_iff.mp hy).1
  rw [show k = 0 by omega] at hy
  cases hy
  exact hat
theorem clS_i {a : Nat} (hk : (sh a).1 = 1) : clS G S a = .inl (G.2.2.1 1, (sh a).2.1, .inl (fun _ => 0)) := by
  unfold clS
  rw [if_pos (by omega), hk]
theorem S_push {cell : Cell} (hS : va_S (aX G) s.heap H locs) : va_S (aX G) s.heap (H.push cell) locs := ⟨Nat.le_trans hS.1 (by rw [Array.size_push]; omega), fun x h1 h2 => by
  rw [Array.getElem?_push, if_neg (Nat.ne_of_lt (Nat.lt_of_lt_of_le h1 hS.1))]; exact hS.2.1 x h1 h2, hS.2.2⟩
def Mi (p : Program) (l : Launch) (e : Env) (R : Room) (s : State) (m : MethodId) (args : Array Value) (below : List Frame) (meth : Method) (c : Code) (G : GT) (S : List (Nat × Nat)) (n N K cells slots : Nat) (vm : Vm) (g : JFrame) (i : Nat) (t : State) : Prop := ∃ (U : State) (locs : List Loc), t = U.setTop g ∧ Stand p l e R s m args below meth c U locs (cells + 1 + i) (slots + N + i * K) ∧ U.vm = vm ∧ va_P G.1 vwCl (wBd G (rwS n S i) (n + 1 + i)) U.heap ∧ U.heap.size = G.2.2.2.1 + (n + 1 + i) ∧ va_S (aX G) s.heap U.heap locs
theorem ms_world {E : CtlPost} {d : Bool} {acts : List Action} {T : State} {g : JFrame} {N K : Nat} {x y : Int32} {kA kC : Class} {cE : ClassId} {Q : Addr → Pre} (X : Stand p l e R s m args below meth c T locs cells slots) (hg : Adr G) (hn : n + 1 + N ≤ NN) (hP : va_P G.1 vwCl (wBd G S n) T.heap) (hz : T.heap.size = G.2.2.2.1 + n) (hS : va_S (aX G) s.heap T.heap locs)
    (b1 : T.vm.classes[G.2.2.1 4]? = some kA) (b2 : kA.kind = .array (G.2.2.1 1) (.array .int)) (d1 : T.vm.classes[G.2.2.1 1]? = some kC) (d2 : kC.kind = .array cE .int)
    (hk : (sh n).1 = 4 ∧ (sh n).2.1 = N) (hSn : ∀ i, (n, i) ∉ S) (hrow : ∀ i, i < N → (sh (n + 1 + i)).1 = 1 ∧ (sh (n + 1 + i)).2.1 = K ∧ (sh n).2.2.getD i 0 = n + 1 + i)
    (h0 : ¬ x < 0 ∧ ¬ y < 0) (hN : x.toNatClampNeg = N) (hM : y.toNatClampNeg = K) (hby : N ≤ 1000 ∧ K ≤ 1000) (hcells : cells + 1 + N ≤ R.cells) (hslots : slots + N + N * K ≤ R.slots)
    (hq : ∀ (U : State) (locs1 : List Loc) (d' : Bool) (acts' : List Action), Stand p l e R s m args below meth c U locs1 (cells + 1 + N) (slots + N + N * K) → va_P G.1 vwCl (wBd G (rwS n S N) (n + 1 + N)) U.heap → U.heap.size = G.2.2.2.1 + (n + 1 + N) → va_S (aX G) s.heap U.heap locs1 → Q (G.2.1 n) d' acts' (U.setTop g)) : wp (Op.multianewarray.make (G.2.2.1 4) [x, y]) Q E e d acts (T.setTop g) := by
  subst hN; subst hM
  have hgn : G.2.1 n = G.2.2.2.1 + n := hg n (by omega)
  have hTn : T.heap.size = G.2.1 n := hz.trans hgn.symm
  obtain ⟨r1, r2⟩ := X.roomAbove (a := 1 + x.toNatClampNeg) (b := x.toNatClampNeg + x.toNatClampNeg * y.toNatClampNeg) (by omega) (by omega)
  refine ms_rows (kA := kA) (kC := kC) (Mi p l e R s m args below meth c G S n x.toNatClampNeg y.toNatClampNeg cells slots T.vm g) b1 b2 d2 h0.1 h0.2 ⟨?_, ?_⟩ ⟨?_, ?_⟩ ?_ ?_ ?_ ?_ ?_
  · rw [Launch.admits_arrayLengthLimit X.admits]; omega
  · rw [Launch.admits_arrayLengthLimit X.admits]; omega
  · rw [Launch.admits_maxHeapBytes X.admits]; show ¬ x.toNatClampNeg * 4 > 536870912; omega
  · rw [Launch.admits_maxHeapBytes X.admits]; show ¬ y.toNatClampNeg * 4 > 536870912; omega
  · show T.heap.size < _; omega
  · show T.slotsUsed + _ ≤ _; omega
  · refine ⟨T.pushCell (arrV (G.2.2.1 4) x.toNatClampNeg (fun _ => .null)), locs, rfl, ?_, rfl, ?_, ?_, S_push hS⟩
    · have := X.pushed (arrV (G.2.2.1 4) x.toNatClampNeg (fun _ => .null))
      rw [arrV_size] at this
      rw [Nat.zero_mul, Nat.add_zero, Nat.add_zero]
      exact this
    · refine wBd_pushed hP ?_
      rw [clS_q (Or.inr hk.1), hk.1, hk.2]
      show (T.heap.push _)[G.2.1 n]? = some (vp_cell _ _)
      rw [vp_cell_q, ← hTn, Array.getElem?_push_size]
      congr 3
      funext j
      show Value.null = va_rf (if (n, j) ∈ S then _ else none)
      rw [if_neg (hSn j)]
      rfl
    · show (T.heap.push _).size = _
      rw [Array.size_push, hz]
      omega
  · rintro i t hi ⟨U, lc, rfl, XU, hv, hPU, hzU, hSU⟩
    have hmul : i * y.toNatClampNeg + y.toNatClampNeg ≤ x.toNatClampNeg * y.toNatClampNeg := by
      have := Nat.mul_le_mul_right y.toNatClampNeg (show i + 1 ≤ x.toNatClampNeg from hi)
      rw [Nat.succ_mul] at this; exact this
    obtain ⟨q1, q2, q3⟩ := hrow i hi
    obtain ⟨u1, u2⟩ := XU.roomAbove (a := 1) (b := y.toNatClampNeg) (by omega) (by omega)
    have hgi : G.2.1 (n + 1 + i) = U.heap.size := by rw [hg (n + 1 + i) (by omega), hzU]
    have hlt : G.2.1 n < U.heap.size := by rw [hgn, hzU]; omega
    have hP1 : va_P G.1 vwCl (wBd G (rwS n S i) (n + 1 + i + 1)) (U.heap.push (arrV (G.2.2.1 1) y.toNatClampNeg (fun _ => .int 0))) := by
      refine wBd_pushed hPU ?_
      rw [clS_i q1, q2]
      show (U.heap.push _)[G.2.1 (n + 1 + i)]? = some (arrV (G.2.2.1 1) y.toNatClampNeg (fun _ => .int 0))
      rw [hgi, Array.getElem?_push_size]
    have hD := wBd_D (S := rwS n S i) (n := n + 1 + i + 1) hg (by omega)
    have hat : (wBd G (rwS n S i) (n + 1 + i + 1))[n]? = some (G.2.1 n, .inl (G.2.2.1 4, x.toNatClampNeg, .inr (.inr (.inr (.inr (rfS G (rwS n S i) n)))))) := by rw [wBd_at G _ (by omega), clS_q (Or.inr hk.1), hk.1, hk.2]
    have hcell : (U.heap.push (arrV (G.2.2.1 1) y.toNatClampNeg (fun _ => .int 0)))[G.2.1 n]? = some (arrV (G.2.2.1 4) x.toNatClampNeg (fun j => va_rf (rfS G (rwS n S i) n j))) := hP1 n _ hat
    refine ⟨by show U.vm.classes[_]? = _; rw [hv]; exact d1, by show U.heap.size < _; omega, by show U.slotsUsed + _ ≤ _; omega, arrV (G.2.2.1 4) x.toNatClampNeg (fun j => va_rf (rfS G (rwS n S i) n j)), ?_, fun h => (by cases h), (by rw [arrV_size]; exact hi), ?_, ?_⟩
    · show (U.heap.push _)[T.heap.size]? = _
      rw [hTn]
      exact hcell
    · show U.fitsSlot (G.2.2.1 4) .none i _ = true
      have hv4 : U.vm.classes[G.2.2.1 4]? = some kA := by rw [hv]; exact b1
      simp [State.fitsSlot, State.slotType?, hv4, b2, fits]
    · refine ⟨(U.pushCell (arrV (G.2.2.1 1) y.toNatClampNeg (fun _ => .int 0))).setCell T.heap.size ((arrV (G.2.2.1 4) x.toNatClampNeg (fun j => va_rf (rfS G (rwS n S i) n j))).setSlot i (.ref U.heap.size)), lc ++ [⟨T.heap.size, i⟩], rfl, ?_, hv, ?_, ?_, ?_⟩
      · have XP := XU.pushed (arrV (G.2.2.1 1) y.toNatClampNeg (fun _ => .int 0))
        rw [arrV_size] at XP
        have XS := XP.stored (a := T.heap.size) (cell := arrV (G.2.2.1 4) x.toNatClampNeg (fun j => va_rf (rfS G (rwS n S i) n j))) (by show (U.heap.push _)[T.heap.size]? = _; rw [hTn]; exact hcell) i (.ref U.heap.size)
        rw [show slots + x.toNatClampNeg + (i + 1) * y.toNatClampNeg = slots + x.toNatClampNeg + i * y.toNatClampNeg + y.toNatClampNeg by rw [Nat.succ_mul]; omega]
        exact XS
      · show va_P G.1 vwCl (wBd G ((n, i) :: rwS n S i) (n + 1 + i + 1)) ((U.heap.push (arrV (G.2.2.1 1) y.toNatClampNeg (fun _ => .int 0))).setIfInBounds T.heap.size ((arrV (G.2.2.1 4) x.toNatClampNeg (fun j => va_rf (rfS G (rwS n S i) n j))).setSlot i (.ref U.heap.size)))
        rw [← wBd_set (x := .inl (G.2.2.1 4, x.toNatClampNeg, .inr (.inr (.inr (.inr (va_up (rfS G (rwS n S i) n) i (some (G.2.1 ((sh n).2.2.getD i 0))))))))) (by rw [clS_q (Or.inr hk.1), rfS_up, hk.1, hk.2])]
        rw [hTn]
        refine hP1.set hD hat ?_ (fun q hq => by rw [Array.getElem?_setIfInBounds, if_neg (Ne.symm hq)])
        show ((U.heap.push (arrV (G.2.2.1 1) y.toNatClampNeg (fun _ => .int 0))).setIfInBounds (G.2.1 n) _)[G.2.1 n]? = some (vp_cell _ _)
        rw [Array.getElem?_setIfInBounds, if_pos rfl, if_pos (by rw [Array.size_push]; omega), vp_cell_q, arrV_store, q3, hgi]
        congr 2
        funext j
        by_cases hj : j = i
        · subst hj
          simp [updV, va_up, va_rf]
        · simp [updV, va_up, hj]
      · show ((U.heap.push _).setIfInBounds _ _).size = _
        rw [Array.size_setIfInBounds, Array.size_push, hzU]
        omega
      · refine (S_push (cell := arrV (G.2.2.1 1) y.toNatClampNeg (fun _ => .int 0)) hSU).put (a := T.heap.size) (k := i) ?_ (fun q hq => ?_) ?_
        · show ((U.heap.push _).setIfInBounds _ _).size = _
          rw [Array.size_setIfInBounds]
        · show ((U.heap.push _).setIfInBounds _ _)[q]? = _
          rw [Array.getElem?_setIfInBounds, if_neg (Ne.symm hq)]
        · show G.2.2.2.1 ≤ T.heap.size
          omega
  · rintro t d' acts' ⟨U, lc, rfl, XU, hv, hPU, hzU, hSU⟩
    show Q T.heap.size d' acts' _
    rw [hTn]
    exact hq U lc d' acts' XU hPU hzU hSU
end BWm
