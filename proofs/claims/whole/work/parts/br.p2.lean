-- the launch's own numbers at the start
def adG (sz b : Nat) (fz ft fv : Nat → Nat) (q : Nat) (a : Nat) : Nat := if a < 123 then sz + a else if a = 123 then b else if a < 208 then fz (a - 200) else if a < 215 then ft (a - 210) else if a < 225 then fv (a - 220) else q
def G0 (D : va_G) (ad : Nat → Nat) (ca : Nat → ClassId) (sz : Nat) : GT := (D, ad, ca, sz, fun _ => True)
def GG (D : va_G) (ad : Nat → Nat) (ca : Nat → ClassId) (sz : Nat) : GT := (D, ad, ca, sz, fun U => Xs (G0 D ad ca sz) U ∧ Zr (G0 D ad ca sz) U ∧ GB (G0 D ad ca sz) U)
theorem GG_Kx {D : va_G} {ad : Nat → Nat} {ca : Nat → ClassId} {s : State} (hK : va_K D vwCl (tyL (G0 D ad ca s.heap.size)) s) (hX : Xs (G0 D ad ca s.heap.size) s) (hZ : Zr (G0 D ad ca s.heap.size) s) (hB : GB (G0 D ad ca s.heap.size) s) (had : ∀ a, a < 123 → ad a = s.heap.size + a) : Kx (GG D ad ca s.heap.size) s := by
  refine ⟨hK, ⟨hX, hZ, hB⟩, Nat.le_refl _, fun a b ha hb e => ?_, fun a ha => ?_, fun U U' hW hs hq h => ⟨h.1.moved hW hq, h.2.1.moved hW hq, h.2.2.moved hW⟩⟩
  · have e1 : ad a = ad b := e
    rw [had a ha, had b hb] at e1
    omega
  · show s.heap.size ≤ ad a
    rw [had a ha]
    omega
theorem kn_ok (c : Nat) (q : vw_C) (h : vwCl[c]? = some q) : (∀ w ∈ u_ws q.1 q.2.1 q.2.2, w ∈ gW) ∧ ∃ n, Cond.instantiable q.1 n ∈ lw_tbl := by
  match c, h with
  | 0, h => cases h; exact ⟨inW1, 2, tw (i := 319) (by decide +kernel)⟩
  | 1, h => cases h; exact ⟨inW2, 9, tw (i := 220) (by decide +kernel)⟩
  | 2, h => cases h; exact ⟨inW3, 4, tw (i := 200) (by decide +kernel)⟩
  | 3, h => cases h; exact ⟨inW4, 7, tw (i := 50) (by decide +kernel)⟩
  | 4, h => cases h; exact ⟨inW6, 3, tw (i := 81) (by decide +kernel)⟩
  | 5, h => cases h; exact ⟨inW7, 8, tw (i := 104) (by decide +kernel)⟩
  | 6, h => cases h; exact ⟨inW8, 12, tw (i := 98) (by decide +kernel)⟩
  | 7, h => cases h; exact ⟨inW9, 2, tw (i := 33) (by decide +kernel)⟩
  | 8, h => cases h; exact ⟨inW10, 15, tw (i := 255) (by decide +kernel)⟩
  | 9, h => cases h; exact ⟨inW11, 14, tw (i := 25) (by decide +kernel)⟩
  | 10, h => cases h; exact ⟨inW12, 45, tw (i := 1067) (by decide +kernel)⟩
  | k + 11, h => exact absurd h (by
      have : vwCl[k + 11]? = none := List.getElem?_eq_none (by show 11 ≤ k + 11; omega)
      rw [this]; intro q; cases q)
section STg
variable {args : Array Value} {s : State}
theorem st_K (hts : ∀ w ∈ lw_tbl, w.before args s = true) : ∃ D : va_G, ∀ (c : Nat) (q : vw_C), vwCl[c]? = some q → u_Kn s q.1 q.2.1 q.2.2 (D.1 c) (D.2 c) := by
  have hg : ∀ w ∈ gW, w.before args s = true := fun w hw => hts w (List.mem_filter.mp hw).1
  have h0 : ∀ c : Nat, ∃ x : ClassId × (Nat → Nat), ∀ q : vw_C, vwCl[c]? = some q → u_Kn s q.1 q.2.1 q.2.2 x.1 x.2 := fun c => by
    cases h : vwCl[c]? with
    | none => exact ⟨((0 : Nat), fun _ => 0), fun q hq => by cases hq⟩
    | some q =>
      obtain ⟨h1, n, h2⟩ := kn_ok c q h
      obtain ⟨cC, iS, hk⟩ := u_known (ws := gW) hg h1 (hts _ h2)
      exact ⟨(cC, iS), fun q' hq => by cases hq; exact hk⟩
  obtain ⟨f, hf⟩ := Classical.axiomOfChoice h0
  exact ⟨(fun c => (f c).1, fun c => (f c).2), fun c q hq => hf c q hq⟩
end STg
theorem st_G {p : Program} {s : State} {m : MethodId} {meth : Method} {c : Code} {b L : Nat} {xs : Nat → Int32} (C0 : lw_At p s m meth c b L xs) (hL : L ≤ 3072) : ∃ G : GT, Lcx G p s m meth c b L xs ∧ GX G ∧ GR G ∧ GN G := by
  obtain ⟨hx, hb, hr, hml, hown, hts, hX, hbl, hlocks, hgv⟩ := id C0
  have hp : ∀ w ∈ prm, w.before #[Value.ref b] s = true := flat_of_before _ hgv
  have hA : ∀ a : Nat, a < s.heap.size → ¬ (fun q : Nat => s.heap.size ≤ q) a := fun a h => Nat.not_le.mpr h
  obtain ⟨D, hD⟩ := st_K hts
  obtain ⟨cB, b1, b2⟩ := st_ar (i := 48) (ty := .byte) hts (by decide +kernel)
  obtain ⟨cI, i1, i2⟩ := st_ar (i := 47) (ty := .int) hts (by decide +kernel)
  obtain ⟨cJ, j1, j2⟩ := st_ar (i := 317) (ty := .long) hts (by decide +kernel)
  have hAO : va_AO RX7 s := va_AO.of (hts _ (tw (i := 261) (by decide +kernel)))
  obtain ⟨compT, cT, kT, t1, t2, t3, t4, t5⟩ := Cond.arrayOver_spec hAO
  obtain ⟨compQ, cQ, kQ, u1, u2, u3, u4, u5⟩ := arrayOverA_spec (hts (.arrayOver (.array .int)) (tw (i := 110) (by decide +kernel)))
  have eq1 : compQ = cI := Option.some.inj (u1.symm.trans i2)
  subst eq1
  obtain ⟨fz, hz⟩ := Classical.axiomOfChoice (fun k : Nat => (show ∃ t : Nat, k < 8 → va_Z "RefundDesk$Reader" (stn (200 + k)).1 (stn (200 + k)).2.1 (.ref t) (fun q : Nat => s.heap.size ≤ q) s s.heap ∧ va_T (stn (200 + k)).2.2 t (stc (200 + k)).length (fun j => .int ((stc (200 + k)).getD j 0)) (fun q : Nat => s.heap.size ≤ q) s s.heap by
    by_cases hk : k < 8
    · obtain ⟨t, ht⟩ := st_z hp hts hA k hk
      exact ⟨t, fun _ => ht⟩
    · exact ⟨0, fun h => absurd h hk⟩))
  obtain ⟨ft, ht⟩ := Classical.axiomOfChoice (fun k : Nat => (show ∃ q : Nat × Nat, k < 5 → vk_R "RefundDeskModel" (sti (210 + k)).1 (sti (210 + k)).2 q.1 s ∧ va_O "java/lang/String" q.1 (fun q : Nat => s.heap.size ≤ q) s s.heap ∧ va_OF "java/lang/String" "coder" "B" (.int 0) q.1 (fun q : Nat => s.heap.size ≤ q) s s.heap ∧ va_OF "java/lang/String" "value" "[B" (.ref q.2) q.1 (fun q : Nat => s.heap.size ≤ q) s s.heap ∧ va_T .byte q.2 (stc (220 + k)).length (fun j => .int ((stc (220 + k)).getD j 0)) (fun q : Nat => s.heap.size ≤ q) s s.heap by
    by_cases hk : k < 5
    · obtain ⟨t, ht⟩ := st_t hp hts hA k hk
      exact ⟨t, fun _ => ht⟩
    · exact ⟨(0, 0), fun h => absurd h hk⟩))
  obtain ⟨qf, hf⟩ := st_f hp hts hA
  obtain ⟨hu1, hu2⟩ := st_u hp hts hA
  obtain ⟨ad, hadd⟩ : ∃ ad : Nat → Nat, ad = adG s.heap.size b fz (fun k => (ft k).1) (fun k => (ft k).2) qf := ⟨_, rfl⟩
  obtain ⟨ca, hca⟩ : ∃ ca : Nat → ClassId, ca = fun k => if k = 0 then cB else if k = 1 then compQ else if k = 2 then cJ else if k = 3 then cT else cQ := ⟨_, rfl⟩
  have a1 : ∀ a, a < 123 → ad a = s.heap.size + a := fun a ha => by rw [hadd]; unfold adG; rw [if_pos ha]
  have a2 : ad 123 = b := by rw [hadd]; unfold adG; rw [if_neg (by omega), if_pos rfl]
  have a3 : ∀ k, k < 8 → ad (200 + k) = fz k := fun k hk => by
    rw [hadd]; unfold adG
    rw [if_neg (by omega), if_neg (by omega), if_pos (by omega), Nat.add_sub_cancel_left]
  have a4 : ∀ k, k < 5 → ad (210 + k) = (ft k).1 := fun k hk => by
    rw [hadd]; unfold adG
    rw [if_neg (by omega), if_neg (by omega), if_neg (by omega), if_pos (by omega), Nat.add_sub_cancel_left]
  have a5 : ∀ k, k < 5 → ad (220 + k) = (ft k).2 := fun k hk => by
    rw [hadd]; unfold adG
    rw [if_neg (by omega), if_neg (by omega), if_neg (by omega), if_neg (by omega), if_pos (by omega), Nat.add_sub_cancel_left]
  have a6 : ad 230 = qf := by
    rw [hadd]; unfold adG
    rw [if_neg (by omega), if_neg (by omega), if_neg (by omega), if_neg (by omega), if_neg (by omega)]
  have c0 : ca 0 = cB := by rw [hca]; rfl
  have c1 : ca 1 = compQ := by rw [hca]; rfl
  have c2 : ca 2 = cJ := by rw [hca]; rfl
  have c3 : ca 3 = cT := by rw [hca]; rfl
  have c4 : ca 4 = cQ := by rw [hca]; rfl
  clear hadd hca
  have hXs : Xs (G0 D ad ca s.heap.size) s := by
    refine ⟨fun a p q => ?_, fun a p q => ?_, st_c hp hts hA, ?_⟩
    · obtain ⟨k, rfl⟩ : ∃ k, a = 200 + k := ⟨a - 200, by omega⟩
      have := hz k (by omega)
      rw [← a3 k (by omega)] at this
      exact this
    · obtain ⟨k, rfl⟩ : ∃ k, a = 210 + k := ⟨a - 210, by omega⟩
      have := ht k (by omega)
      rw [← a4 k (by omega), ← a5 k (by omega)] at this
      rw [show 210 + k + 10 = 220 + k by omega]
      exact this
    · rw [← a6] at hf
      exact hf
  have hZr : Zr (G0 D ad ca s.heap.size) s := ⟨hu1, hu2, st_n hp hts, st_b hts⟩
  have hGB : GB (G0 D ad ca s.heap.size) s := by
    refine ⟨⟨kQ, by show s.vm.classes[ca 4]? = _; rw [c4]; exact u3, by show kQ.kind = .array (ca 1) _; rw [c1]; exact u4⟩, hAO, va_Nw.of rfl (hts _ (tw (i := 34) (by decide +kernel))), va_Nw.of rfl (hts _ (tw (i := 82) (by decide +kernel))), va_Nw.of rfl (hts _ (tw (i := 105) (by decide +kernel))), va_Nw.of rfl (hts _ (tw (i := 221) (by decide +kernel))), va_Nw.of rfl (hts _ (tw (i := 262) (by decide +kernel)))⟩
  have hK : va_K D vwCl (tyL (G0 D ad ca s.heap.size)) s := by
    refine ⟨hD, fun k q hk => ?_⟩
    match k, hk with
    | 0, hk => cases hk; show ArrOfT s (ca 0) _ ∧ va_RA s (ca 0) _; rw [c0]; exact ⟨b1, b2⟩
    | 1, hk => cases hk; show ArrOfT s (ca 1) _ ∧ va_RA s (ca 1) _; rw [c1]; exact ⟨i1, i2⟩
    | 2, hk => cases hk; show ArrOfT s (ca 2) _ ∧ va_RA s (ca 2) _; rw [c2]; exact ⟨j1, j2⟩
    | 3, hk => cases hk; show ArrOfT s (ca 3) _ ∧ va_RA s (ca 3) _; rw [c3]; exact ⟨fun n z => ⟨fun k q => (by cases q), kT, t3, compT, t4⟩, kT, compT, t3, t4, t1, t5⟩
    | 4, hk => cases hk; show ArrOfT s (ca 4) _ ∧ va_RA s (ca 4) _; rw [c4]; exact ⟨fun n z => ⟨fun k q => (by cases q), kQ, u3, compQ, u4⟩, u5⟩
    | k + 5, hk => exact absurd hk (by
        have : (tyL (G0 D ad ca s.heap.size))[k + 5]? = none := List.getElem?_eq_none (by show 5 ≤ k + 5; omega)
        rw [this]; intro q; cases q)
  refine ⟨GG D ad ca s.heap.size, ⟨C0, GG_Kx hK hXs hZr hGB a1, a2, rfl, hL⟩, fun U h => h.1, fun U h => h.2.1, ?_, fun U h => h.2.2⟩
  intro a ha
  exact a1 a ha
