-- the law from its entry
def mpA : Bool := (List.range 123).all fun a => decide ((sh a).1 < 10) || (List.range (sh a).2.1).all fun j => decide ((sh a).2.2.getD j 0 = 0) || (decide ((sh a).2.2.getD j 0 = 1) || decide ((a, j) ∈ L12 ++ (L11 ++ [])))
def mpB : Bool := (List.range 123).all fun a => decide ((sh a).1 ≤ 2) || (decide (10 ≤ (sh a).1) || (List.range (sh a).2.1).all fun j => decide ((a, j) ∈ L12 ++ (L11 ++ [])))
theorem mpA_ok : mpA = true := by decide +kernel
theorem mpB_ok : mpB = true := by decide +kernel
theorem mp_end : (∀ a, a < NN → 10 ≤ (sh a).1 → ∀ j, j < (sh a).2.1 → (sh a).2.2.getD j 0 = 0 ∨ (sh a).2.2.getD j 0 = 1 ∨ (a, j) ∈ L12 ++ (L11 ++ [])) ∧ ∀ a, a < NN → 2 < (sh a).1 → (sh a).1 < 10 → ∀ i, i < (sh a).2.1 → (a, i) ∈ L12 ++ (L11 ++ []) := by
  refine ⟨fun a ha h1 j hj => ?_, fun a ha h1 h2 j hj => ?_⟩
  · have h := List.all_eq_true.mp mpA_ok a (List.mem_range.mpr ha)
    rcases Bool.or_eq_true _ _ |>.mp h with h | h
    · exact absurd (of_decide_eq_true h) (by omega)
    · have h := List.all_eq_true.mp h j (List.mem_range.mpr hj)
      rcases Bool.or_eq_true _ _ |>.mp h with h | h
      · exact Or.inl (of_decide_eq_true h)
      · rcases Bool.or_eq_true _ _ |>.mp h with h | h
        · exact Or.inr (Or.inl (of_decide_eq_true h))
        · exact Or.inr (Or.inr (of_decide_eq_true h))
  · have h := List.all_eq_true.mp mpB_ok a (List.mem_range.mpr ha)
    rcases Bool.or_eq_true _ _ |>.mp h with h | h
    · exact absurd (of_decide_eq_true h) (by omega)
    · rcases Bool.or_eq_true _ _ |>.mp h with h | h
      · exact absurd (of_decide_eq_true h) (by omega)
      · exact of_decide_eq_true (List.all_eq_true.mp h j (List.mem_range.mpr hj))
theorem loS_11 : loS (L11 ++ []) 98 := loS_app (n := 0) (by decide +kernel) (by decide) (fun q h => absurd h List.not_mem_nil)
theorem loS_12 : loS (L12 ++ (L11 ++ [])) 122 := loS_app (by decide +kernel) (by decide) loS_11
theorem whole_start {p : Program} {e : Env} {s : State} {m : MethodId} {below : List Frame} {meth : Method} {c : Code} (l : Launch) (hflags : l.flags = flags0) {b L : Nat} {xs : Nat → Int32} (hL : L ≤ 3072) (C0 : lw_At p s m meth c b L xs) : W p l e room_1 s m #[Value.ref b] below meth c s.heap [] 0 0 (lw_Z below #[Value.ref b] s) (entryFrame m ([Value.ref b] : List Value).toArray 7) := by
  have hfl : l.stackTraces = false := by unfold Launch.stackTraces; rw [hflags]; decide
  obtain ⟨G, C, hGX, hGR, hGN⟩ := st_G C0 hL
  obtain ⟨hx, hb, hr, hml, hown, hts, hX, hbl, hlocks, hgv⟩ := id C0
  have hw := C.w
  have hKx := C.2.1
  have hsz : G.2.2.2.1 = s.heap.size := C.2.2.2.1
  have hl := lv_entry ([.ref b]) (n := 7) (Nat.le_of_ble_eq_true rfl)
  rw [lg_entry_eq]
  generalize (lg_sl ([.ref b]) ++ List.replicate (7 - (lg_sl ([.ref b])).length) Slot.unset).toArray = ls at hl ⊢
  have hl : lv_has ls 7 [(0, .ref b)] := hl
  have hP0 : va_P G.1 vwCl (wBd G [] 0) s.heap := fun k q h => by simp [wBd] at h
  refine bw_new (own := R_law) (C := RX11) (T := TX11) (N := 14) (ci := 9) (index := 8) (S := []) (n := 0) hx hb hown hw hKx.1 hGN.1 (by decide) hP0 hsz.symm va_S.rf (by decide +kernel) rfl inW11 tyX11 tyX11_ok (gw (i := 24) (by decide +kernel) rfl) (gw (i := 25) (by decide +kernel) rfl) (gw (i := 1) (by decide +kernel) rfl) (bw_dv (Cn := RX11) (T := TX11) (N := 14) (ci := 9) (by decide +kernel) rfl (by decide +kernel) (fun q h => absurd h List.not_mem_nil)) (by decide +kernel) (by decide +kernel) (by decide +kernel) (fun H1 hP1 hz1 hS1 => ?_)
  refine lv_dup hx hb (by decide +kernel) rfl ?_
  refine bw_call (M' := mX11_init) (host := RX11) (idx := 15) (a := 0) (av := []) (rest := [.ref 0]) (st := [.ref 0, .ref 0]) hx hb (hl.1.trans hml.symm) hown hw hKx mc_X11_init (by unfold MeN; decide +kernel) (gw (i := 27) (by decide +kernel) rfl) rfl rfl (Or.inl (gw (i := 26) (by decide +kernel) rfl)) rfl ⟨rfl, by decide⟩ (by decide +kernel) hP1 hz1 hS1 (by decide +kernel) (mb_X11_0 hGN) (fun H2 locs2 hP2 hz2 hS2 => ?_)
  refine lv_astore_n (k := 1) (i := 1) (nL := 7) (x := G.2.1 0) (lv' := [(1, .ref (G.2.1 0)), (0, .ref b)]) hx hb (by decide +kernel) rfl hl (by decide) rfl (fun ls hl => ?_)
  refine bw_new (own := R_law) (C := RX12) (T := TX12) (N := 45) (ci := 10) (index := 16) (n := 98) hx hb hown hw hKx.1 hGN.1 (by decide) hP2 hz2 hS2 (by decide +kernel) rfl inW12 tyX12 tyX12_ok (gw (i := 1066) (by decide +kernel) rfl) (gw (i := 1067) (by decide +kernel) rfl) (gw (i := 11) (by decide +kernel) rfl) (bw_dv (Cn := RX12) (T := TX12) (N := 45) (ci := 10) (by decide +kernel) rfl (by decide +kernel) loS_11) (by decide +kernel) (by decide +kernel) (by decide +kernel) (fun H3 hP3 hz3 hS3 => ?_)
  refine lv_dup hx hb (by decide +kernel) rfl ?_
  refine bw_call (M' := mX12_init) (host := RX11) (idx := 18) (a := 98) (av := []) (rest := [.ref 98]) (st := [.ref 98, .ref 98]) hx hb (hl.1.trans hml.symm) hown hw hKx mc_X12_init (by unfold MeN; decide +kernel) (gw (i := 1069) (by decide +kernel) rfl) rfl rfl (Or.inl (gw (i := 1068) (by decide +kernel) rfl)) rfl ⟨rfl, by decide⟩ (by decide +kernel) hP3 hz3 hS3 (by decide +kernel) (mb_X12_98 hGN (loS_up loS_11 (by decide))) (fun H4 locs4 hP4 hz4 hS4 => ?_)
  refine lv_astore_n (k := 2) (i := 2) (nL := 7) (x := G.2.1 98) (lv' := [(2, .ref (G.2.1 98)), (1, .ref (G.2.1 0)), (0, .ref b)]) hx hb (by decide +kernel) rfl hl (by decide) rfl (fun ls hl => ?_)
  refine lv_iconst (n := 1) (v := 1) hx hb (by decide +kernel) (by decide) ?_
  refine bw_long (n := 122) hx hb hw hKx.1 hGN.1 (by decide) hP4 hz4 hS4 (gw (i := 317) (by decide +kernel) rfl) (by decide +kernel) (by decide) (by decide +kernel) (by decide +kernel) (by decide +kernel) (by decide +kernel) (by decide +kernel) (fun H5 hP5 hz5 hS5 => ?_)
  refine lv_astore_n (k := 3) (i := 3) (nL := 7) (x := G.2.1 122) (lv' := [(3, .ref (G.2.1 122)), (2, .ref (G.2.1 98)), (1, .ref (G.2.1 0)), (0, .ref b)]) hx hb (by decide +kernel) rfl hl (by decide) rfl (fun ls hl => ?_)
  refine lv_iconst (n := 0) (v := 0) hx hb (by decide +kernel) (by decide) ?_
  refine lv_istore (i := 4) (nL := 7) (x := 0) (lv' := [(4, .int 0), (3, .ref (G.2.1 122)), (2, .ref (G.2.1 98)), (1, .ref (G.2.1 0)), (0, .ref b)]) hx hb (by decide +kernel) hl (by decide) rfl (fun ls hl => ?_)
  refine law_all C hfl hGX hGR _ _ (by decide +kernel) (by decide +kernel) KS_0 MS_0 XI_0 H5 _ ls (wBd_wo mp_end.1 mp_end.2 hP5) hS5 (lv_mono hl (fun q hq => ?_))
  have hq : q ∈ [(0, Value.ref (G.2.1 123)), (1, .ref (G.2.1 0)), (2, .ref (G.2.1 98)), (3, .ref (G.2.1 122)), (4, .int 0)] := hq
  rw [C.2.2.1] at hq
  simp only [List.mem_cons, List.not_mem_nil, or_false] at hq ⊢
  rcases hq with h | h | h | h | h
  · exact Or.inr (Or.inr (Or.inr (Or.inr h)))
  · exact Or.inr (Or.inr (Or.inr (Or.inl h)))
  · exact Or.inr (Or.inr (Or.inl h))
  · exact Or.inr (Or.inl h)
  · exact Or.inl h
