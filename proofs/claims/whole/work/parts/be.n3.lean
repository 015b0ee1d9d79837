-- a field set, a field read, while the world is made
section BWp
variable {p : Program} {l : Launch} {e : Env} {R : Room} {s : State} {m : MethodId} {args : Array Value} {below : List Frame} {meth : Method} {c : Code} {H : Heap} {locs : List Loc} {cells slots : Nat} {Q : State → Prop} {G : GT} {S : List (Nat × Nat)} {n : Nat} {cc : ByteArray} {pc : Nat} {ls : Array Slot} {rest : List Value}
theorem wBd_D (hg : Adr G) (hn : n ≤ NN) : va_D (aX G) (wBd G S n) := by
  have key : ∀ (i : Nat) (x : Nat × va_E), (wBd G S n)[i]? = some x → i < n ∧ x.1 = G.2.1 i := by
    intro i x hx
    have hi : i < n := by
      have := (List.getElem?_eq_some_iff.mp hx).1
      simpa [wBd] using this
    rw [wBd_at G S hi] at hx
    cases hx
    exact ⟨hi, rfl⟩
  refine ⟨fun i j x y hi hj e => ?_, fun k q hk => ?_⟩
  · obtain ⟨a1, a2⟩ := key i x hi
    obtain ⟨b1, b2⟩ := key j y hj
    rw [a2, b2, hg i (by omega), hg j (by omega)] at e
    omega
  · obtain ⟨a1, a2⟩ := key k q hk
    show G.2.2.2.1 ≤ q.1
    rw [a2, hg k (by omega)]
    omega
theorem clS_o {ci a : Nat} (hk : (sh a).1 = 10 + ci) : clS G S a = .inr (ci, (List.range (sh a).2.1).map (pvS G S a)) := by
  unfold clS
  rw [hk, if_neg (by omega), if_neg (by omega), if_neg (by omega), show 10 + ci - 10 = ci by omega]
theorem bw_put {own : String} {C : String} {T : u_T} {N idx ci k a : Nat} {ty : FieldType} (hx : p.tables.exec = Jvm.exec) (hb : c.code = cc) (hown : s.vm.findClass own = some m.cls) (hts : ∀ w ∈ gW, w.before args s = true) (hK : va_K G.1 vwCl (tyL G) s) (hg : Adr G) (hn : n ≤ NN) (ha : a < n) (hP : va_P G.1 vwCl (wBd G S n) H) (hz : H.size = G.2.2.2.1 + n) (hS : va_S (aX G) s.heap H locs)
    (hk : (sh a).1 = 10 + ci) (hc : vwCl[ci]? = some (C, T, N)) (hin : ∀ w ∈ u_ws C T N, w ∈ gW) (ty0 : Nat → FieldType) (hty : ∀ k, k < N → parseFieldDescriptor (T k).2.2.1 = some (ty0 k)) (hnm : ∀ a, a < N → ∀ b, b < N → a ≠ b → (T a).2.1 ≠ (T b).2.1) (hkN : k < N) (hlen : (sh a).2.1 = N) (hlink : Cond.fieldLink own idx (T k).1 (T k).2.1 (T k).2.2.1 ∈ gW)
    (hw : (T k).2.2.2 = false ∨ ((T k).2.2.2 = true ∧ meth.name = "<init>" ∧ (T k).1 = own)) (hj : (sh a).2.2.getD k 0 ≠ 0 ∧ (sh a).2.2.getD k 0 ≠ 1) (hd : parseFieldDescriptor (T k).2.2.1 = some ty) (hnr : ∀ q : Nat, narrow ty (.ref q) = .ref q) (hfit : ∀ q : Nat, fits ty (.ref q) = true) (hdg : decode cc pc = .ok (.putfield idx, 3))
    (kk : ∀ (H1 : Heap) (locs1 : List Loc), va_P G.1 vwCl (wBd G ((a, k) :: S) n) H1 → H1.size = G.2.2.2.1 + n → va_S (aX G) s.heap H1 locs1 → W p l e R s m args below meth c H1 locs1 cells slots Q (F0 m (pc + 3) ls rest)) : W p l e R s m args below meth c H locs cells slots Q (F0 m pc ls (.ref (G.2.1 ((sh a).2.2.getD k 0 - 2)) :: .ref (G.2.1 a) :: rest)) := by
  have hD := wBd_D (S := S) hg hn
  have he : (wBd G S n)[a]? = some (G.2.1 a, .inr (ci, (List.range (sh a).2.1).map (pvS G S a))) := by rw [wBd_at G S ha, clS_o hk]
  have hl : k < ((List.range (sh a).2.1).map (pvS G S a)).length := by rw [List.length_map, List.length_range, hlen]; exact hkN
  have hap := va_apart (own := own) hts hin ty0 hty hnm hK hc
  obtain ⟨r, h1, cell, q1, q2, q3, q4⟩ := hP a _ he
  have hr : r = (C, T, N) := Option.some.inj (h1.symm.trans hc)
  subst hr
  obtain ⟨hSl, hfc, kC, hkC, hkind⟩ := hK.1 ci _ hc
  obtain ⟨cf, kf, fi, f, hi, hsl⟩ := hSl k hkN
  have hlay := hts _ (hin _ (u_in_lay hkN))
  have hst := (u_facts hfc hkC (u_lays hts hin hkN) hi).1
  have fin : ∀ H' : Heap, H'[G.2.1 a]? = some (cell.setSlot f.slot (.ref (G.2.1 ((sh a).2.2.getD k 0 - 2)))) → H'.size = H.size → (∀ q, q ≠ G.2.1 a → H'[q]? = H[q]?) → W p l e R s m args below meth c H' (locs ++ [⟨G.2.1 a, f.slot⟩]) cells slots Q (F0 m (pc + 3) ls rest) := by
    intro H' e1 e2 e3
    rw [hsl] at e1
    refine kk H' _ ?_ (e2.trans hz) (hS.put e2 e3 (hD.2 a _ he))
    rw [← wBd_set (clS_obj hk hj)]
    exact hP.set hD he ⟨_, hc, t_OB.to (V := updV (vp_V ((List.range (sh a).2.1).map (pvS G S a))) k (.ref (G.2.1 ((sh a).2.2.getD k 0 - 2)))) ⟨_, e1, q2, q3, t_set q4 hap hkN _⟩ (fun j _ => vp_updV_set hl _ j)⟩ e3
  unfold u_lay at hlay
  rcases hw with hfin | ⟨hfin, hin2, hdecl⟩
  · rw [if_neg (by rw [hfin]; decide)] at hlay
    have h6 := u_store hfc hkC hkind hlay hi hd (hnr _) (hfit (G.2.1 ((sh a).2.2.getD k 0 - 2)))
    exact W.putK hx hb (f := f) ⟨hown, hts _ hlink, ⟨_, _, _, hi⟩, hst⟩ (by rw [q2]; exact h6) q1 q3 (by rw [hsl]; exact k2_hasslot (q4 k hkN)) rfl rfl hdg fin
  · rw [if_pos hfin] at hlay
    have hcf : m.cls = cf := by
      obtain ⟨_, _, c', _, _, _, -, -, hf', -, -, -, hown2, -⟩ := Cond.laysFinal_spec hlay
      have e1 : c' = cf := by have := hi.symm.trans hf'; simp at this; exact this.1.symm
      rw [hdecl] at hown2
      rw [← e1]; exact Option.some.inj (hown.symm.trans hown2)
    have h6 := u_fits hfc hkC hkind (Or.inr hlay) hi hd (hnr _) (hfit (G.2.1 ((sh a).2.2.getD k 0 - 2)))
    exact W.putFinK hx hb hown (hts _ hlink) hi hst hcf hin2 (by rw [q2]; exact h6) q1 q3 (by rw [hsl]; exact k2_hasslot (q4 k hkN)) rfl rfl hdg fin
theorem bw_get {own : String} {C : String} {T : u_T} {N idx ci k a : Nat} (hx : p.tables.exec = Jvm.exec) (hb : c.code = cc) (hown : s.vm.findClass own = some m.cls) (hts : ∀ w ∈ gW, w.before args s = true) (hK : va_K G.1 vwCl (tyL G) s) (ha : a < n) (hP : va_P G.1 vwCl (wBd G S n) H)
    (hk : (sh a).1 = 10 + ci) (hc : vwCl[ci]? = some (C, T, N)) (hin : ∀ w ∈ u_ws C T N, w ∈ gW) (hkN : k < N) (hlen : (sh a).2.1 = N) (hlink : Cond.fieldLink own idx (T k).1 (T k).2.1 (T k).2.2.1 ∈ gW) (hj : (sh a).2.2.getD k 0 ≠ 0 ∧ (sh a).2.2.getD k 0 ≠ 1) (hm : (a, k) ∈ S) (hdg : decode cc pc = .ok (.getfield idx, 3))
    (kk : W p l e R s m args below meth c H locs cells slots Q (F0 m (pc + 3) ls (.ref (G.2.1 ((sh a).2.2.getD k 0 - 2)) :: rest))) : W p l e R s m args below meth c H locs cells slots Q (F0 m pc ls (.ref (G.2.1 a) :: rest)) := by
  refine va_get hx hb hts hin hown hK hP a (by rw [wBd_at G S ha, clS_o hk]) hc k hkN (hts _ hlink) (fun _ z => z) ?_ hdg kk
  rw [List.getElem?_map, List.getElem?_range (by omega)]
  show some (pvS G S a k) = _
  unfold pvS
  rw [if_neg hj.1, if_neg hj.2, if_pos hm]
end BWp
