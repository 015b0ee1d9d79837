-- the world: its cells by abstract addresses
/-- what lies at an abstract address: (0 bytes, 1 ints, 2 longs, 3 Tables, 4 rows of ints; 10 + c: an object of class c), how many places, what refs -/
def sh (a : Nat) : Nat × Nat × List Nat := (if a < 61 then (if a < 30 then (if a < 15 then (if a < 7 then (if a < 3 then (if a < 1 then (19, 14, [3, 4, 5, 6, 7, 8, 10, 14, 17, 65, 66, 71, 98, 1]) else (if a < 2 then (1, 14, []) else (1, 115, []))) else (if a < 5 then (if a < 4 then (1, 115, []) else (1, 4, [])) else (if a < 6 then (1, 4, []) else (17, 2, [9, 0])))) else (if a < 11 then (if a < 9 then (if a < 8 then (0, 320, []) else (13, 7, [11, 12, 0, 13, 8, 0, 0])) else (if a < 10 then (1, 14, []) else (1, 112, []))) else (if a < 13 then (if a < 12 then (1, 4, []) else (14, 3, [15, 16, 0])) else (if a < 14 then (1, 256, []) else (1, 4, []))))) else (if a < 22 then (if a < 18 then (if a < 16 then (16, 12, [18, 19, 20, 21, 33, 45, 3, 57, 58, 61, 64, 0]) else (if a < 17 then (1, 13, []) else (1, 13, []))) else (if a < 20 then (if a < 19 then (1, 13, []) else (15, 8, [22, 23, 24, 25, 29, 0, 0, 0])) else (if a < 21 then (1, 91, []) else (1, 91, [])))) else (if a < 26 then (if a < 24 then (if a < 23 then (1, 91, []) else (4, 3, [24, 25, 26])) else (if a < 25 then (1, 91, []) else (1, 91, []))) else (if a < 28 then (if a < 27 then (1, 91, []) else (4, 3, [28, 29, 30])) else (if a < 29 then (1, 91, []) else (1, 91, [])))))) else (if a < 45 then (if a < 37 then (if a < 33 then (if a < 31 then (1, 91, []) else (if a < 32 then (15, 8, [34, 35, 36, 37, 41, 0, 0, 0]) else (1, 91, []))) else (if a < 35 then (if a < 34 then (1, 91, []) else (1, 91, [])) else (if a < 36 then (4, 3, [36, 37, 38]) else (1, 91, [])))) else (if a < 41 then (if a < 39 then (if a < 38 then (1, 91, []) else (1, 91, [])) else (if a < 40 then (4, 3, [40, 41, 42]) else (1, 91, []))) else (if a < 43 then (if a < 42 then (1, 91, []) else (1, 91, [])) else (if a < 44 then (15, 8, [46, 47, 48, 49, 53, 0, 0, 0]) else (1, 91, []))))) else (if a < 53 then (if a < 49 then (if a < 47 then (if a < 46 then (1, 91, []) else (1, 91, [])) else (if a < 48 then (4, 3, [48, 49, 50]) else (1, 91, []))) else (if a < 51 then (if a < 50 then (1, 91, []) else (1, 91, [])) else (if a < 52 then (4, 3, [52, 53, 54]) else (1, 91, [])))) else (if a < 57 then (if a < 55 then (if a < 54 then (1, 91, []) else (1, 91, [])) else (if a < 56 then (1, 115, []) else (4, 2, [57, 58]))) else (if a < 59 then (if a < 58 then (1, 78, []) else (1, 78, [])) else (if a < 60 then (4, 2, [60, 61]) else (1, 78, []))))))) else (if a < 92 then (if a < 76 then (if a < 68 then (if a < 64 then (if a < 62 then (1, 78, []) else (if a < 63 then (1, 2, []) else (12, 4, [3, 4, 17, 0]))) else (if a < 66 then (if a < 65 then (11, 9, [0, 67, 68, 69, 70, 0, 0, 0, 0]) else (1, 4715, [])) else (if a < 67 then (1, 300, []) else (1, 115, [])))) else (if a < 72 then (if a < 70 then (if a < 69 then (1, 300, []) else (18, 15, [0, 0, 0, 0, 0, 0, 0, 0, 3, 17, 72, 73, 0, 0, 0])) else (if a < 71 then (3, 3, [31, 72, 84]) else (2, 2560, []))) else (if a < 74 then (if a < 73 then (15, 8, [75, 76, 77, 78, 82, 0, 0, 0]) else (1, 91, [])) else (if a < 75 then (1, 91, []) else (1, 91, []))))) else (if a < 84 then (if a < 80 then (if a < 78 then (if a < 77 then (4, 3, [77, 78, 79]) else (1, 91, [])) else (if a < 79 then (1, 91, []) else (1, 91, []))) else (if a < 82 then (if a < 81 then (4, 3, [81, 82, 83]) else (1, 91, [])) else (if a < 83 then (1, 91, []) else (1, 91, [])))) else (if a < 88 then (if a < 86 then (if a < 85 then (15, 8, [87, 88, 89, 90, 94, 0, 0, 0]) else (1, 91, [])) else (if a < 87 then (1, 91, []) else (1, 91, []))) else (if a < 90 then (if a < 89 then (4, 3, [89, 90, 91]) else (1, 91, [])) else (if a < 91 then (1, 91, []) else (1, 91, [])))))) else (if a < 107 then (if a < 99 then (if a < 95 then (if a < 93 then (4, 3, [93, 94, 95]) else (if a < 94 then (1, 91, []) else (1, 91, []))) else (if a < 97 then (if a < 96 then (1, 91, []) else (10, 2, [99, 3])) else (if a < 98 then (1, 91, []) else (20, 45, [0, 101, 0, 0, 0, 102, 103, 104, 105, 106, 107, 108, 109, 0, 0, 0, 0, 0, 0, 0, 110, 111, 112, 113, 0, 0, 0, 0, 114, 115, 116, 117, 118, 0, 0, 119, 1, 120, 0, 121, 122, 0, 0, 0, 123])))) else (if a < 103 then (if a < 101 then (if a < 100 then (0, 320, []) else (1, 14, [])) else (if a < 102 then (1, 14, []) else (1, 24, []))) else (if a < 105 then (if a < 104 then (1, 48, []) else (1, 72, [])) else (if a < 106 then (1, 4, []) else (1, 320, []))))) else (if a < 115 then (if a < 111 then (if a < 109 then (if a < 108 then (1, 5, []) else (1, 494, [])) else (if a < 110 then (1, 494, []) else (1, 494, []))) else (if a < 113 then (if a < 112 then (1, 19760, []) else (1, 13, [])) else (if a < 114 then (1, 13, []) else (1, 13, [])))) else (if a < 119 then (if a < 117 then (if a < 116 then (2, 62640, []) else (2, 62640, [])) else (if a < 118 then (2, 62640, []) else (1, 494, []))) else (if a < 121 then (if a < 120 then (1, 4096, []) else (1, 144, [])) else (if a < 122 then (1, 144, []) else (2, 1, []))))))))
def NN : Nat := 123
/-- memory: what each int place and each long place of each abstract address holds -/
abbrev Mm : Type := (Nat → Nat → Int32) × (Nat → Nat → Int64)
abbrev Po : Type := Option Value → Mm → Prop
abbrev Lv : Type := List (Nat × Value)
abbrev Ko : Type := Option Nat → Lv → List Value → Mm → Prop
/-- the launch's classes, where each abstract address lies, the arrays' classes, the first new cell, what else stays so -/
abbrev GT : Type := va_G × (Nat → Nat) × (Nat → ClassId) × Nat × (State → Prop)
abbrev Tr : Type := Launch → GT → Nat → Ko → Po → Lv → List Value → Mm → Prop
abbrev In : Type := Nat × Nat × Tr
def gW : List Cond := lw_tbl.filter goodWord
def wsM (M : Me) : List Cond := .code M.1 M.2.1 M.2.2.1 M.2.2.2.1 :: gW
def rmD (d : Nat) : Room := { frames := d, cells := 0, slots := 0, locals := 96 * d }
def uI (σ : Mm) (a k : Nat) (v : Int32) : Mm := (fun b => if b = a then upd (σ.1 a) k v else σ.1 b, σ.2)
def uJ (σ : Mm) (a k : Nat) (v : Int64) : Mm := (σ.1, fun b => if b = a then vp_updL (σ.2 a) k v else σ.2 b)
def uR (σ : Mm) (a : Nat) (r : Nat → Int32) : Mm := (fun b => if b = a then r else σ.1 b, σ.2)
def uL (σ : Mm) (a : Nat) (r : Nat → Int64) : Mm := (σ.1, fun b => if b = a then r else σ.2 b)
def fv (G : GT) (σ : Mm) (a j : Nat) : Value := if (sh a).2.2.getD j 0 = 0 then .int (σ.1 a j) else if (sh a).2.2.getD j 0 = 1 then .long (σ.2 a j) else .ref (G.2.1 ((sh a).2.2.getD j 0 - 2))
def cel (G : GT) (σ : Mm) (a : Nat) : va_E :=
  if (sh a).1 < 2 then .inl (G.2.2.1 (sh a).1, (sh a).2.1, .inl (σ.1 a))
  else if (sh a).1 = 2 then .inl (G.2.2.1 2, (sh a).2.1, .inr (.inl (σ.2 a)))
  else if (sh a).1 < 10 then .inl (G.2.2.1 (sh a).1, (sh a).2.1, .inr (.inr (.inr (.inr (fun i => some (G.2.1 ((sh a).2.2.getD i 0)))))))
  else .inr ((sh a).1 - 10, (List.range (sh a).2.1).map (fv G σ a))
def wo (G : GT) (σ : Mm) : va_W := (List.range NN).map (fun a => (G.2.1 a, cel G σ a))
def tyL (G : GT) : List (ClassId × FieldType) := [(G.2.2.1 0, .byte), (G.2.2.1 1, .int), (G.2.2.1 2, .long), (G.2.2.1 3, .object "RefundDesk$Table"), (G.2.2.1 4, .array .int)]
def aX (G : GT) : Nat → Prop := fun q => G.2.2.2.1 ≤ q
def tv (G : GT) : Value → Value | .ref a => .ref (G.2.1 a) | v => v
def tl (G : GT) (q : Nat × Value) : Nat × Value := (q.1, tv G q.2)
theorem tv_cat (G : GT) (v : Value) : (tv G v).category = v.category := by cases v <;> rfl
/-- what holds of a state as a method is entered, and stays so -/
def Kx (G : GT) (U : State) : Prop := va_K G.1 vwCl (tyL G) U ∧ G.2.2.2.2 U ∧ G.2.2.2.1 ≤ U.heap.size ∧ (∀ a b, a < NN → b < NN → G.2.1 a = G.2.1 b → a = b) ∧ (∀ a, a < NN → G.2.2.2.1 ≤ G.2.1 a) ∧
  (∀ U U' : State, U.WarmedH U'.vm → U.heap.size ≤ U'.heap.size → (∀ q : Nat, q < U.heap.size → ¬ aX G q → U'.heap[q]? = U.heap[q]?) → G.2.2.2.2 U → G.2.2.2.2 U')
theorem Kx.moved {G : GT} {U U' : State} (h : Kx G U) (hv : U.WarmedH U'.vm) (hs : U.heap.size ≤ U'.heap.size) (hq : ∀ q : Nat, q < U.heap.size → ¬ aX G q → U'.heap[q]? = U.heap[q]?) : Kx G U' :=
  ⟨va_K.moved hv.alike h.1, h.2.2.2.2.2 U U' hv hs hq h.2.1, Nat.le_trans h.2.2.1 hs, h.2.2.2.1, h.2.2.2.2.1, h.2.2.2.2.2⟩
def Pcx (G : GT) (av : List Value) (σ : Mm) : Array Value → State → Prop := va_Pc (av.map (tv G)) (fun U => va_P G.1 vwCl (wo G σ) U.heap ∧ Kx G U)
def Qcx (G : GT) (Q : Po) : Array Value → State → Outcome → State → Prop := fun _ st oc t => (∃ (r : Option Value) (σ : Mm), oc = .returned (r.map (tv G)) ∧ Q r σ ∧ va_P G.1 vwCl (wo G σ) t.heap) ∧ va_F (aX G) st t
/-- method M, called with these arguments in this memory, returns, and Q of its answer and the memory then -/
def MW (l : Launch) (G : GT) (d : Nat) (M : Me) (av : List Value) (σ : Mm) (Q : Po) : Prop := Met l M.1 (wsM M) (rmD d) (Pcx G av σ) (Qcx G Q) 0 0 (aX G)
def Cw (G : GT) (M : Me) (p : Program) (s : State) (m : MethodId) (args : Array Value) (meth : Method) (c : Code) : Prop :=
  p.tables.exec = Jvm.exec ∧ c.code = M.2.1 ∧ meth.sig.returnType = M.2.2.2.1 ∧ c.maxLocals = M.2.2.1 ∧ s.vm.findClass M.2.2.2.2 = some m.cls ∧ (∀ w ∈ gW, w.before args s = true) ∧ meth.locks = false ∧ Kx G s
/-- from this place of M's body, with these locals, stack and memory, M returns, and Q -/
def Wp (l : Launch) (G : GT) (d : Nat) (M : Me) (pc : Nat) (lv : Lv) (st : List Value) (σ : Mm) (Q : Po) : Prop :=
  ∀ (p : Program) (e : Env) (s : State) (m : MethodId) (args : Array Value) (below : List Frame) (meth : Method) (c : Code) (H : Heap) (locs : List Loc) (ls : Array Slot), Cw G M p s m args meth c → va_P G.1 vwCl (wo G σ) H → va_S (aX G) s.heap H locs → lv_has ls M.2.2.1 (lv.map (tl G)) →
    W p l e (rmD d) s m args below meth c H locs 0 0 (MQ below (Qcx G Q) args s 0 0 (aX G)) (F0 m pc ls (st.map (tv G)))
/-- an instruction's transformer is sound -/
def Ent (M : Me) (i : In) : Prop := ∀ (l : Launch) (G : GT) (d : Nat) (K : Ko) (Q : Po) (lv : Lv) (st : List Value) (σ : Mm), (∀ lv st σ, K none lv st σ → Wp l G d M i.2.1 lv st σ Q) → (∀ t lv st σ, K (some t) lv st σ → Wp l G d M t lv st σ Q) → i.2.2 l G d K Q lv st σ → Wp l G d M i.1 lv st σ Q
-- locals
def lk : Lv → Nat → Option Value
  | [], _ => none
  | q :: l, i => if q.1 = i then some q.2 else lk l i
theorem lk_mem {lv : Lv} {i : Nat} {v : Value} (h : lk lv i = some v) : (i, v) ∈ lv := by
  induction lv with
  | nil => cases h
  | cons q l ih =>
    unfold lk at h
    split at h
    · next e => cases h; subst e; exact List.mem_cons_self
    · exact List.mem_cons_of_mem _ (ih h)
theorem lk_at {G : GT} {ls : Array Slot} {n : Nat} {lv : Lv} {i : Nat} {v : Value} (hl : lv_has ls n (lv.map (tl G))) (h : lk lv i = some v) : ls[i]? = some (.val (tv G v)) := hl.2.2 (i, tv G v) (List.mem_map.mpr ⟨(i, v), lk_mem h, rfl⟩)
def ins (i : Nat) (v : Value) : Lv → Lv
  | [] => [(i, v)]
  | q :: l => if i < q.1 then (i, v) :: q :: l else q :: ins i v l
theorem ins_mem {i : Nat} {v : Value} {l : Lv} {q : Nat × Value} (h : q ∈ ins i v l) : q = (i, v) ∨ q ∈ l := by
  induction l with
  | nil => exact Or.inl (List.mem_singleton.mp h)
  | cons x l ih =>
    unfold ins at h
    split at h
    · rcases List.mem_cons.mp h with h | h
      · exact Or.inl h
      · exact Or.inr h
    · rcases List.mem_cons.mp h with h | h
      · exact Or.inr (by rw [h]; exact List.mem_cons_self)
      · rcases ih h with h | h
        · exact Or.inl h
        · exact Or.inr (List.mem_cons_of_mem _ h)
def sto (lv : Lv) (i : Nat) (v : Value) : Lv := ins i v (lv.filter (fun q => !(q.1 == i) && !(q.1 + 1 == i && q.2.category == 2)))
def sto2 (lv : Lv) (i : Nat) (v : Value) : Lv := ins i v (lv.filter (fun q => !(q.1 == i) && (!(q.1 == i + 1) && !(q.1 + 1 == i && q.2.category == 2))))
theorem lv_mono {ls : Array Slot} {n : Nat} {l l' : List (Nat × Value)} (h : lv_has ls n l) (hm : ∀ q ∈ l', q ∈ l) : lv_has ls n l' := ⟨h.1, h.2.1, fun q hq => h.2.2 q (hm q hq)⟩
theorem sto_ok {G : GT} {lv : Lv} {i : Nat} {v : Value} : ∀ q ∈ (sto lv i v).map (tl G), q ∈ (i, tv G v) :: (lv.map (tl G)).filter (fun q => !(q.1 == i) && !(q.1 + 1 == i && q.2.category == 2)) := by
  intro q hq
  obtain ⟨x, hx, rfl⟩ := List.mem_map.mp hq
  rcases ins_mem hx with rfl | h
  · exact List.mem_cons_self
  · obtain ⟨h1, h2⟩ := List.mem_filter.mp h
    refine List.mem_cons_of_mem _ (List.mem_filter.mpr ⟨List.mem_map.mpr ⟨x, h1, rfl⟩, ?_⟩)
    simpa [tl, tv_cat] using h2
theorem sto2_ok {G : GT} {lv : Lv} {i : Nat} {v : Value} : ∀ q ∈ (sto2 lv i v).map (tl G), q ∈ (i, tv G v) :: (lv.map (tl G)).filter (fun q => !(q.1 == i) && (!(q.1 == i + 1) && !(q.1 + 1 == i && q.2.category == 2))) := by
  intro q hq
  obtain ⟨x, hx, rfl⟩ := List.mem_map.mp hq
  rcases ins_mem hx with rfl | h
  · exact List.mem_cons_self
  · obtain ⟨h1, h2⟩ := List.mem_filter.mp h
    refine List.mem_cons_of_mem _ (List.mem_filter.mpr ⟨List.mem_map.mpr ⟨x, h1, rfl⟩, ?_⟩)
    simpa [tl, tv_cat] using h2
theorem Wp.sub {l : Launch} {G : GT} {d : Nat} {M : Me} {pc : Nat} {lv lv' : Lv} {st : List Value} {σ : Mm} {Q : Po} (hm : ∀ q ∈ lv', q ∈ lv) (h : Wp l G d M pc lv' st σ Q) : Wp l G d M pc lv st σ Q :=
  fun p e s m args below meth c H locs ls C hP hS hl => h p e s m args below meth c H locs ls C hP hS (lv_mono hl (fun q hq => by
    obtain ⟨x, hx, rfl⟩ := List.mem_map.mp hq
    exact List.mem_map.mpr ⟨x, hm x hx, rfl⟩))
-- the world's places
theorem wo_at (G : GT) (σ : Mm) {a : Nat} (h : a < NN) : (wo G σ)[a]? = some (G.2.1 a, cel G σ a) := by
  unfold wo
  rw [List.getElem?_map, List.getElem?_range h]; rfl
theorem wo_D {G : GT} {U : State} (h : Kx G U) (σ : Mm) : va_D (aX G) (wo G σ) := by
  have key : ∀ (i : Nat) (x : Nat × va_E), (wo G σ)[i]? = some x → i < NN ∧ x.1 = G.2.1 i := by
    intro i x hx
    have hi : i < NN := by
      have := (List.getElem?_eq_some_iff.mp hx).1
      simpa [wo] using this
    rw [wo_at G σ hi] at hx
    cases hx
    exact ⟨hi, rfl⟩
  refine ⟨fun i j x y hi hj e => ?_, fun k q hk => ?_⟩
  · obtain ⟨a1, a2⟩ := key i x hi
    obtain ⟨b1, b2⟩ := key j y hj
    exact h.2.2.2.1 i j a1 b1 (by rw [← a2, ← b2]; exact e)
  · obtain ⟨a1, a2⟩ := key k q hk
    show G.2.2.2.1 ≤ q.1
    rw [a2]
    exact h.2.2.2.2.1 k a1
theorem mr_set {α : Type} {f g : Nat → α} {n k : Nat} {x : α} (h1 : g k = x) (h2 : ∀ j, j ≠ k → g j = f j) : ((List.range n).map f).set k x = (List.range n).map g := by
  apply List.ext_getElem?
  intro j
  by_cases hj : j < n
  · by_cases e : k = j
    · subst e
      rw [List.getElem?_set_self (by simpa using hj), List.getElem?_map, List.getElem?_range hj, ← h1]; rfl
    · rw [List.getElem?_set_ne e, List.getElem?_map, List.getElem?_map, List.getElem?_range hj]
      simp [h2 j (fun q => e q.symm)]
  · have h3 : ((List.range n).map g)[j]? = none := by simp; omega
    rw [h3]
    have h4 : (((List.range n).map f).set k x).length ≤ j := by simp; omega
    exact List.getElem?_eq_none h4
theorem cel_ne {G : GT} {σ σ' : Mm} {b : Nat} (h1 : σ'.1 b = σ.1 b) (h2 : σ'.2 b = σ.2 b) : cel G σ' b = cel G σ b := by
  unfold cel fv
  rw [h1, h2]
theorem wo_set {G : GT} {σ σ' : Mm} {a : Nat} {x : va_E} (h1 : cel G σ' a = x) (h2 : ∀ b, b ≠ a → σ'.1 b = σ.1 b) (h3 : ∀ b, b ≠ a → σ'.2 b = σ.2 b) : (wo G σ).set a (G.2.1 a, x) = wo G σ' := by
  unfold wo
  refine mr_set (by rw [h1]) (fun j hj => ?_)
  rw [cel_ne (h2 j hj) (h3 j hj)]
def lenB (a : Nat) : Nat := if (sh a).1 = 0 ∧ a < NN then (sh a).2.1 else 0
def lenI (a : Nat) : Nat := if (sh a).1 = 1 ∧ a < NN then (sh a).2.1 else 0
def lenJ (a : Nat) : Nat := if (sh a).1 = 2 ∧ a < NN then (sh a).2.1 else 0
def lenQ (a : Nat) : Nat := if ((sh a).1 = 3 ∨ (sh a).1 = 4) ∧ a < NN then (sh a).2.1 else 0
def refA (a k : Nat) : Nat := (sh a).2.2.getD k 0
theorem in_pos {i : Int32} {n : Nat} (h : vp_in i n) : 0 < n := Nat.pos_of_ne_zero (fun e => h (Or.inr (by rw [e]; exact Nat.zero_le _)))
theorem lenI_in {a : Nat} {i : Int32} (h : vp_in i (lenI a)) : (sh a).1 = 1 ∧ a < NN ∧ lenI a = (sh a).2.1 := by
  have := in_pos h
  unfold lenI at this ⊢
  split at this
  · next e => exact ⟨e.1, e.2, if_pos e⟩
  · exact absurd this (Nat.lt_irrefl _)
theorem lenB_in {a : Nat} {i : Int32} (h : vp_in i (lenB a)) : (sh a).1 = 0 ∧ a < NN ∧ lenB a = (sh a).2.1 := by
  have := in_pos h
  unfold lenB at this ⊢
  split at this
  · next e => exact ⟨e.1, e.2, if_pos e⟩
  · exact absurd this (Nat.lt_irrefl _)
theorem lenJ_in {a : Nat} {i : Int32} (h : vp_in i (lenJ a)) : (sh a).1 = 2 ∧ a < NN ∧ lenJ a = (sh a).2.1 := by
  have := in_pos h
  unfold lenJ at this ⊢
  split at this
  · next e => exact ⟨e.1, e.2, if_pos e⟩
  · exact absurd this (Nat.lt_irrefl _)
theorem lenQ_in {a : Nat} {i : Int32} (h : vp_in i (lenQ a)) : ((sh a).1 = 3 ∨ (sh a).1 = 4) ∧ a < NN ∧ lenQ a = (sh a).2.1 := by
  have := in_pos h
  unfold lenQ at this ⊢
  split at this
  · next e => exact ⟨e.1, e.2, if_pos e⟩
  · exact absurd this (Nat.lt_irrefl _)
theorem cel_I {G : GT} {σ : Mm} {a : Nat} (h : (sh a).1 = 1) : cel G σ a = .inl (G.2.2.1 1, (sh a).2.1, .inl (σ.1 a)) := by simp [cel, h]
theorem cel_B {G : GT} {σ : Mm} {a : Nat} (h : (sh a).1 = 0) : cel G σ a = .inl (G.2.2.1 0, (sh a).2.1, .inl (σ.1 a)) := by simp [cel, h]
theorem cel_J {G : GT} {σ : Mm} {a : Nat} (h : (sh a).1 = 2) : cel G σ a = .inl (G.2.2.1 2, (sh a).2.1, .inr (.inl (σ.2 a))) := by simp [cel, h]
theorem cel_O {G : GT} {σ : Mm} {a c : Nat} (h : (sh a).1 = 10 + c) : cel G σ a = .inr (c, (List.range (sh a).2.1).map (fv G σ a)) := by
  have h1 : ¬ 10 + c < 2 := by omega
  have h2 : ¬ 10 + c = 2 := by omega
  have h3 : ¬ 10 + c < 10 := by omega
  simp [cel, h, h1, h2]
