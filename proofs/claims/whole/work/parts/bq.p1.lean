-- what stays of a state
theorem Xs.moved {G : GT} {U U' : State} (hW : U.WarmedH U'.vm) (hq : ∀ q : Nat, q < U.heap.size → ¬ aX G q → U'.heap[q]? = U.heap[q]?) (h : Xs G U) : Xs G U' := by
  obtain ⟨h1, h2, h3, h4⟩ := h
  refine ⟨fun a p q => ⟨((h1 a p q).1.moved hW.alike).kept hq, ((h1 a p q).2.moved hW.alike).kept hq⟩, fun a p q => ?_, (h3.moved hW.alike).kept hq, ?_⟩
  · obtain ⟨q1, q2, q3, q4, q5⟩ := h2 a p q
    exact ⟨vk_R.warm hW q1, (q2.moved hW.alike).kept hq, (q3.moved hW.alike).kept hq, (q4.moved hW.alike).kept hq, (q5.moved hW.alike).kept hq⟩
  · rcases h4 with h4 | h4
    · exact Or.inl ((h4.moved hW.alike).kept hq)
    · exact Or.inr ((h4.moved hW.alike).kept hq)
theorem Zr.moved {G : GT} {U U' : State} (hW : U.WarmedH U'.vm) (hq : ∀ q : Nat, q < U.heap.size → ¬ aX G q → U'.heap[q]? = U.heap[q]?) (h : Zr G U) : Zr G U' := by
  obtain ⟨h1, h2, ⟨sa, h3⟩, h4⟩ := h
  refine ⟨(vx_Zq.moved hW.alike h1).kept hq, (vx_Zq.moved hW.alike h2).kept hq, ⟨sa, vk_R.warm hW h3⟩, ?_⟩
  unfold nsB at h4 ⊢
  refine List.forall_mem_cons.mpr ⟨va_Nw.warmC hW (h4 _ List.mem_cons_self), List.forall_mem_cons.mpr ⟨va_Nw.warmD hW (h4 _ (List.mem_cons_of_mem _ List.mem_cons_self)), List.forall_mem_cons.mpr ⟨va_Nw.warmD hW (h4 _ (List.mem_cons_of_mem _ (List.mem_cons_of_mem _ List.mem_cons_self))), List.forall_mem_cons.mpr ⟨va_Nw.warmD hW (h4 _ (List.mem_cons_of_mem _ (List.mem_cons_of_mem _ (List.mem_cons_of_mem _ List.mem_cons_self)))), fun _ h => absurd h List.not_mem_nil⟩⟩⟩⟩
theorem GB.moved {G : GT} {U U' : State} (hW : U.WarmedH U'.vm) (h : GB G U) : GB G U' :=
  ⟨nsA.moved hW.alike h.1, va_AO.moved hW.alike h.2.1, va_Nw.warmM hW h.2.2.1, va_Nw.warmM hW h.2.2.2.1, va_Nw.warmM hW h.2.2.2.2.1, va_Nw.warmM hW h.2.2.2.2.2.1, va_Nw.warmM hW h.2.2.2.2.2.2⟩
-- the premises at the start, by their places
def prm : List Cond := flatC (Jvm.Cond.and given_1 narrow_1)
def pz (a : Nat) : Nat := if a = 200 then 42 else if a = 201 then 49 else if a = 202 then 56 else if a = 203 then 64 else if a = 204 then 89 else if a = 205 then 114 else if a = 206 then 4 else 29
def lz (a : Nat) : Nat := if a = 200 then 446 else if a = 201 then 448 else if a = 202 then 454 else if a = 203 then 460 else if a = 204 then 462 else if a = 205 then 464 else if a = 206 then 403 else 420
def pt (a : Nat) : Nat := if a = 210 then 173 else if a = 211 then 192 else if a = 212 then 200 else if a = 213 then 228 else 210
def lt (a : Nat) : Nat := if a = 210 then 1259 else if a = 211 then 1334 else if a = 212 then 1335 else if a = 213 then 1356 else 1344
def tz (a : Nat) : Term := .static "RefundDesk$Reader" (stn a).1 (stn a).2.1
def tt (a : Nat) : Term := .string "RefundDeskModel" (sti a).1
def tf (a : Nat) : Term := .field (tt a) "java/lang/String" "value" "[B"
theorem pz_ok : ∀ k, k < 8 → prm[pz (200 + k) + 1]? = some (.arrayOf (tz (200 + k)) (stn (200 + k)).2.2) ∧ prm[pz (200 + k) + 2]? = some (.eq (.length (tz (200 + k))) (.int (Int32.ofNat (stc (200 + k)).length))) ∧ tables_1[lz (200 + k)]? = some (.laysStatic "RefundDesk$Reader" (stn (200 + k)).1 (stn (200 + k)).2.1) ∧ (stc (200 + k)).length < 2 ^ 31 ∧
    ∀ j, j < (stc (200 + k)).length → prm[pz (200 + k) + 3 + j]? = some (.eq (.elem (tz (200 + k)) (.int (Int32.ofNat j))) (.int ((stc (200 + k)).getD j 0))) := by decide +kernel
theorem pt_ok : ∀ k, k < 5 → prm[pt (210 + k)]? = some (.exactly (tt (210 + k)) "java/lang/String") ∧ prm[pt (210 + k) + 1]? = some (.eq (.field (tt (210 + k)) "java/lang/String" "coder" "B") (.int 0)) ∧ prm[pt (210 + k) + 2]? = some (.arrayOf (tf (210 + k)) .byte) ∧ prm[pt (210 + k) + 3]? = some (.eq (.length (tf (210 + k))) (.int (Int32.ofNat (stc (220 + k)).length))) ∧ tables_1[lt (210 + k)]? = some (.stringRef "RefundDeskModel" (sti (210 + k)).1 (sti (210 + k)).2) ∧ (stc (220 + k)).length < 2 ^ 31 ∧
    ∀ j, j < (stc (220 + k)).length → prm[pt (210 + k) + 4 + j]? = some (.eq (.elem (tf (210 + k)) (.int (Int32.ofNat j))) (.int ((stc (220 + k)).getD j 0))) := by decide +kernel
theorem tw {i : Nat} {w : Cond} (h : tables_1[i]? = some w) : w ∈ lw_tbl := List.mem_append_right _ (List.mem_of_getElem? h)
section STt
variable {args : Array Value} {s : State} {A : Nat → Prop}
theorem st_z (hp : ∀ w ∈ prm, w.before args s = true) (hts : ∀ w ∈ lw_tbl, w.before args s = true) (hA : ∀ a : Nat, a < s.heap.size → ¬ A a) (k : Nat) (hk : k < 8) : ∃ t : Nat, va_Z "RefundDesk$Reader" (stn (200 + k)).1 (stn (200 + k)).2.1 (.ref t) A s s.heap ∧ va_T (stn (200 + k)).2.2 t (stc (200 + k)).length (fun j => .int ((stc (200 + k)).getD j 0)) A s s.heap := by
  obtain ⟨h1, h2, h3, h4, h5⟩ := pz_ok k hk
  obtain ⟨t, ht, hT⟩ := va_Tof (f := fun j => .int ((stc (200 + k)).getD j 0)) (A := A) h4 (hp _ (List.mem_of_getElem? h1)) (va_eqt (hp _ (List.mem_of_getElem? h2))) (fun j hj => va_eqt (hp _ (List.mem_of_getElem? (h5 j hj)))) hA
  exact ⟨t, va_Zof (hts _ (tw h3)) (hts _ (tw (i := 3) (by decide +kernel))) ht hA, hT⟩
theorem st_t (hp : ∀ w ∈ prm, w.before args s = true) (hts : ∀ w ∈ lw_tbl, w.before args s = true) (hA : ∀ a : Nat, a < s.heap.size → ¬ A a) (k : Nat) (hk : k < 5) : ∃ q : Nat × Nat, vk_R "RefundDeskModel" (sti (210 + k)).1 (sti (210 + k)).2 q.1 s ∧ va_O "java/lang/String" q.1 A s s.heap ∧ va_OF "java/lang/String" "coder" "B" (.int 0) q.1 A s s.heap ∧ va_OF "java/lang/String" "value" "[B" (.ref q.2) q.1 A s s.heap ∧ va_T .byte q.2 (stc (220 + k)).length (fun j => .int ((stc (220 + k)).getD j 0)) A s s.heap := by
  obtain ⟨h1, h2, h3, h4, h5, h6, h7⟩ := pt_ok k hk
  obtain ⟨a, c, cA, kA, q1, q2, q3, q4, q5, q6, -⟩ := Cond.exactly_spec (args := args) (first := s) (o := none) (s := s) (idx := []) (t := tt (210 + k)) (cls := "java/lang/String") (hp _ (List.mem_of_getElem? h1))
  obtain ⟨t, ht, hT⟩ := va_Tof (f := fun j => .int ((stc (220 + k)).getD j 0)) (A := A) h6 (hp _ (List.mem_of_getElem? h3)) (va_eqt (hp _ (List.mem_of_getElem? h4))) (fun j hj => va_eqt (hp _ (List.mem_of_getElem? (h7 j hj)))) hA
  exact ⟨(a, t), vk_R.of (hts _ (tw h5)) q1, va_Oof (hp _ (List.mem_of_getElem? h1)) q1 hA, vk_OFof q1 (va_eqt (hp _ (List.mem_of_getElem? h2))) hA, vk_OFof q1 ht hA, hT⟩
theorem st_n (hp : ∀ w ∈ prm, w.before args s = true) (hts : ∀ w ∈ lw_tbl, w.before args s = true) : ∃ sa : Nat, vk_R RX11 181 "no such node" sa s := by
  have h1 : prm[157]? = some (.exactly (.string RX11 181) "java/lang/String") := by decide +kernel
  obtain ⟨a, c, cA, kA, q1, -⟩ := Cond.exactly_spec (args := args) (first := s) (o := none) (s := s) (idx := []) (t := .string RX11 181) (cls := "java/lang/String") (hp _ (List.mem_of_getElem? h1))
  exact ⟨a, vk_R.of (hts _ (tw (i := 1040) (by decide +kernel))) q1⟩
theorem st_c (hp : ∀ w ∈ prm, w.before args s = true) (hts : ∀ w ∈ lw_tbl, w.before args s = true) (hA : ∀ a : Nat, a < s.heap.size → ¬ A a) : va_Z "java/lang/String" "COMPACT_STRINGS" "Z" (.int 1) A s s.heap := by
  have h1 : prm[141]? = some (.eq (.static "java/lang/String" "COMPACT_STRINGS" "Z") (.int 1)) := by decide +kernel
  exact va_Zof (hts _ (tw (i := 1276) (by decide +kernel))) (hts _ (tw (i := 14) (by decide +kernel))) (va_eqi (hp _ (List.mem_of_getElem? h1))) hA
theorem st_f (hp : ∀ w ∈ prm, w.before args s = true) (hts : ∀ w ∈ lw_tbl, w.before args s = true) (hA : ∀ a : Nat, a < s.heap.size → ¬ A a) : ∃ t : Nat, va_Z "jdk/internal/util/Preconditions" "SIOOBE_FORMATTER" "Ljava/util/function/BiFunction;" .null A s s.heap ∨ va_Z "jdk/internal/util/Preconditions" "SIOOBE_FORMATTER" "Ljava/util/function/BiFunction;" (.ref t) A s s.heap := by
  have h1 : prm[142]? = some (.isRef (.static "jdk/internal/util/Preconditions" "SIOOBE_FORMATTER" "Ljava/util/function/BiFunction;")) := by decide +kernel
  rcases va_Zqof (A := A) (hts _ (tw (i := 1292) (by decide +kernel))) (hts _ (tw (i := 16) (by decide +kernel))) (hp _ (List.mem_of_getElem? h1)) hA with h | ⟨t, h⟩
  · exact ⟨0, Or.inl h⟩
  · exact ⟨t, Or.inr h⟩
theorem st_u (hp : ∀ w ∈ prm, w.before args s = true) (hts : ∀ w ∈ lw_tbl, w.before args s = true) (hA : ∀ a : Nat, a < s.heap.size → ¬ A a) : vx_Zq Bundle.tN "UNASSIGNED_STACK" Bundle.steD A s s.heap ∧ vx_Zq Bundle.tN "SUPPRESSED_SENTINEL" Bundle.listD A s s.heap := by
  have h1 : prm[139]? = some (.isRef (.static Bundle.tN "UNASSIGNED_STACK" Bundle.steD)) := by decide +kernel
  have h2 : prm[140]? = some (.isRef (.static Bundle.tN "SUPPRESSED_SENTINEL" Bundle.listD)) := by decide +kernel
  exact ⟨vx_Zqof (hts _ (tw (i := 1028) (by decide +kernel))) (hts _ (tw (i := 20) (by decide +kernel))) (hp _ (List.mem_of_getElem? h1)) hA, vx_Zqof (hts _ (tw (i := 1030) (by decide +kernel))) (hts _ (tw (i := 20) (by decide +kernel))) (hp _ (List.mem_of_getElem? h2)) hA⟩
theorem st_b (hts : ∀ w ∈ lw_tbl, w.before args s = true) : ∀ w ∈ nsB, va_Nw w s := by
  have h1 : ∀ w ∈ nsB, tables_1.any (fun v => decide (v = w)) = true ∧ w.onTables = true := by decide +kernel
  intro w hw
  obtain ⟨g1, g2⟩ := h1 w hw
  obtain ⟨v, v1, v2⟩ := List.any_eq_true.mp g1
  have v3 : v = w := of_decide_eq_true v2
  rw [v3] at v1
  exact va_Nw.of g2 (hts _ (List.mem_append_right _ v1))
theorem st_ar {ty : FieldType} {i : Nat} (hts : ∀ w ∈ lw_tbl, w.before args s = true) (h : tables_1[i]? = some (.arrayClass ty)) : ∃ cA : ClassId, ArrOfT s cA ty ∧ s.vm.findClass ("[" ++ ty.toString) = some cA := by
  obtain ⟨cA, kA, comp, h1, h2, h3⟩ := Cond.arrayClass_spec (hts _ (tw h))
  exact ⟨cA, fun n z => ⟨fun k q => (by cases q), kA, h2, comp, h3⟩, h1⟩
end STt
