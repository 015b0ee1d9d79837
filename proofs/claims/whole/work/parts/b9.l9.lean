-- the law's case of rate
theorem ml_L_42 : Cond.methodLink R_law 42 yL_rate ∈ gW := gw (i := 993) (by decide +kernel) rfl
theorem ml_L_47 : Cond.methodLink R_law 47 yX12_rate ∈ gW := gw (i := 1594) (by decide +kernel) rfl
theorem ml_L_48 : Cond.methodLink R_law 48 yX12_thrown ∈ gW := gw (i := 1209) (by decide +kernel) rfl
theorem st_Lr : Cond.static yL_rate ∈ gW := gw (i := 994) (by decide +kernel) rfl
theorem in_Lr : Cond.initialized yL_rate.cls ∈ gW := gw (i := 0) (by decide +kernel) rfl
theorem cd_Lr : Cond.codeWith yL_rate method_3_code 5 (some .int) [(0, 10, 13, 13)] ∈ gW := gw (i := 995) (by decide +kernel) (by decide +kernel)
section LRt
variable {p : Program} {l : Launch} {e : Env} {s : State} {m : MethodId} {below : List Frame} {meth : Method} {c : Code} {b L i N : Nat} {xs : Nat → Int32} {G : GT} {cc ss pc : Nat} {lv lv' : Lv} {st : List Value} {σ : Mm} {X : Xw}
theorem le_sub (hm : ∀ q ∈ lv', q ∈ lv) (h : LB p l e s m below meth c b G cc ss pc lv' st σ) : LB p l e s m below meth c b G cc ss pc lv st σ := fun H locs ls hP hS hl => h H locs ls hP hS (lv_mono hl (fun q hq => by
  obtain ⟨x, hx, rfl⟩ := List.mem_map.mp hq
  exact List.mem_map.mpr ⟨x, hm x hx, rfl⟩))
theorem le_laload (C : Lcx G p s m meth c b L xs) (hd : decode code pc = .ok (.laload, 1)) (h : LB p l e s m below meth c b G cc ss (pc + 1) lv (.long (σ.2 122 0) :: st) σ) : LB p l e s m below meth c b G cc ss pc lv (.int 0 :: .ref 122 :: st) σ :=
  fun H locs ls hP hS hl => va_lald C.1.1 C.1.2.1 C.2.1.1 hP 122 2 ((wo_at G σ (by decide)).trans (congrArg (fun z => some (G.2.1 122, z)) (cel_J (by decide)))) rfl (show vp_in (0 : Int32) 1 from by unfold vp_in; decide) hd (h H locs ls hP hS hl)
theorem le_rate (C : Lcx G p s m meth c b L xs) {d : Nat} {av rest : List Value} (hd : decode code pc = .ok (.invokestatic 42, 3)) (hst : st = av.reverse ++ rest) (hn : av.length = 4 ∧ catS rest ≤ 24) (hb : d ≤ 100 ∧ cc + 1 ≤ 601024 ∧ ss + 6 ≤ 7293034)
    (h : Met l yL_rate wsLr (rmT d) (Pcx G av σ) (Qcx G (fun r σ' => LB p l e s m below meth c b G (cc + 1) (ss + 6) (pc + 3) lv (r.toList ++ rest) σ')) 1 6 (aX G)) : LB p l e s m below meth c b G cc ss pc lv st σ := by
  intro H locs ls hP hS hl T hT X
  obtain ⟨⟨hx, hbc, hr, hml, hown, hts0, hX, hbl, hlocks, hgv⟩, hKx, hbb, hsz, hL⟩ := id C
  have hts := C.w
  have hst' : st.map (tv G) = (av.map (tv G)).reverse ++ rest.map (tv G) := by
    rw [hst, List.map_append, List.map_reverse]
  have hin : ∀ w ∈ wsLr, w ∈ gW ∧ ((w.onTables && w.keeps) = true ∨ ∃ ty, w = .arrayClass ty) := by
    intro w hw
    have hm : w ∈ gW := by
      rcases List.mem_cons.mp hw with e | e
      · rw [e]; exact cd_Lr
      · exact e
    exact ⟨hm, gW_good hm⟩
  have hback : Back l room_1 p e below s #[Value.ref b] yL_rate 3 24 (PreOf room_1 1 6 (Pcx G av σ)) (PostOf (Qcx G (fun r σ' => LB p l e s m below meth c b G (cc + 1) (ss + 6) (pc + 3) lv (r.toList ++ rest) σ')) 1 6 (aX G)) :=
    va_backW (hh := [(0, 10, 13, 13)]) (bytes := method_3_code) (maxL := 5) (ret := some .int) h (blind_Pcx G av σ) rfl rfl (by show d + 1 ≤ 2048; omega) (by show 24 + (5 + 11) + 96 * d ≤ 84000; omega) (pay_in hts hin) List.mem_cons_self (fun a' U hW => word_at hW (gW_good in_Lr) (hts _ in_Lr))
  obtain ⟨v, vm1, ⟨U', l2, c2, s2⟩, hW1, X', ⟨g', mk, t, Lc, e1, e2, hq, h1, hLc, h2, h3⟩, go⟩ := vx_callSW X hx (hh := [(0, 10, 13, 13)]) (bytes := method_3_code) (maxL := 5) (ret := some .int) hown (hts _ ml_L_42) (hts _ st_Lr) (hts _ in_Lr) (hts _ cd_Lr) (by decide +kernel) hback (g := F0 m pc ls (st.map (tv G))) rfl (hl.1.trans hml.symm) (argsL := av.map (tv G)) (rest := rest.map (tv G)) (fun sig hs => by
    have h4 : (parseMethodDescriptor yL_rate.desc).map (fun d => d.parameters.length) = some 4 := by decide +kernel
    rw [hs] at h4
    rw [List.length_map, hn.1]
    exact (Option.some.inj h4).symm) hst' (room24 hn.2) (by rw [hbc]; exact hd) (fun vm1 hW1 => ⟨hb.2.1, hb.2.2, (cal_pre (l := l) (d := 0) hT hP hS hKx vm1 hW1).2.2⟩)
  dsimp only [Pt.U, Pt.locs, Pt.cells, Pt.slots] at X' e1 e2 h1 h2 h3 go
  subst h1; subst h2; subst h3
  obtain ⟨⟨r, σ', hv, hQ, hP'⟩, hF⟩ := hq
  cases hv
  have hgo := hQ t.heap (locs ++ Lc) ls hP' (cal_S hS (st0 := (T.setVm vm1).calling g' mk _) hT hF hLc) hl
  obtain ⟨t2, a1, b1⟩ := hgo U' e1 X'
  refine ⟨t2, go t2 ?_, b1⟩
  have he : (r.map (tv G)).toList ++ rest.map (tv G) = (r.toList ++ rest).map (tv G) := by cases r <;> simp
  rw [he]
  exact a1
theorem lc_rate (C : Lcx G p s m meth c b L xs) (hfl : l.stackTraces = false) (hZ : GR G) (hi : i + 6 ≤ L) (hb : cc + 1 ≤ 601024 ∧ ss + 6 ≤ 7293034) (hK : KS σ X) (hM : MS σ X) (hX : XI N X)
    (nxt : ∀ cc' ss' τ Y, cc' ≤ cc + 1 → ss' ≤ ss + 6 → KS τ Y → MS τ Y → XI (N + 40) Y → LB p l e s m below meth c b G cc' ss' 1607 (lv0 i) [] τ) : LB p l e s m below meth c b G cc ss 425 (lv0 i) [] σ := by
  refine le_aload_n C (k := 1) (a := 0) (by decide +kernel) rfl ?_
  refine le_arg C (i := i) 1 (by omega) ⟨rfl, rfl⟩ (by decide +kernel) (by decide +kernel) (by decide +kernel) (by decide +kernel) (by decide +kernel) ?_
  refine le_arg C (i := i) 2 (by omega) ⟨rfl, rfl⟩ (by decide +kernel) (by decide +kernel) (by decide +kernel) (by decide +kernel) (by decide +kernel) ?_
  refine le_aload_n C (k := 3) (a := 122) (by decide +kernel) rfl ?_
  -- behind the call, what is common
  have tl9 : ∀ (k : Int32) (σ1 : Mm), σ1.1 = σ.1 → k = xQ X 1 (fun ru _ => if isN ru (xs (i + 1)).toInt (xs (i + 2)).toInt then 0 else 1) → (k = 0 → σ1.2 122 0 = (xQ X 0 (fun ru W => jI (aRate ru W (xs (i + 1)).toInt (xs (i + 2)).toInt)) : Int32).toInt64) → LB p l e s m below meth c b G (cc + 1) (ss + 6) 442 (lv0 i) [.int k] σ1 := by
    intro k σ1 e1 ek eo
    have hK1 : KS σ1 X := hK.fr (fun c _ _ => by rw [e1])
    have hM1 : MS σ1 X := hM.kf (fun c _ => by rw [e1])
    refine le_istore C (i := 5) (by decide +kernel) (by decide) ?_
    refine le_aload_n C (k := 2) (a := 98) (by decide +kernel) rfl ?_
    refine le_arg C (i := i) 1 (by omega) ⟨rfl, rfl⟩ (by decide +kernel) (by decide +kernel) (by decide +kernel) (by decide +kernel) (by decide +kernel) ?_
    refine le_arg C (i := i) 2 (by omega) ⟨rfl, rfl⟩ (by decide +kernel) (by decide +kernel) (by decide +kernel) (by decide +kernel) (by decide +kernel) ?_
    refine le_callV C (idx := 47) (M' := mX12_rate) (a := 98) (av := [.int (xs (i + 1)), .int (xs (i + 2))]) (rest := []) (d := 53) (by decide +kernel) ml_L_47 mv_X12_rate rfl ⟨rfl, rfl, Nat.le_of_ble_eq_true rfl⟩ ⟨by omega, hb⟩ (cx_rate hM1 hX (fun τ f1 f2 m1 t1 => ?_))
    refine le_istore C (i := 6) (by decide +kernel) (by decide) ?_
    refine le_aload_n C (k := 2) (a := 98) (by decide +kernel) rfl ?_
    refine le_callV C (idx := 48) (M' := mX12_thrown) (a := 98) (av := []) (rest := []) (d := 53) (by decide +kernel) ml_L_48 mv_X12_thrown rfl ⟨rfl, rfl, Nat.le_of_ble_eq_true rfl⟩ ⟨by omega, hb⟩ (cx_thrown ?_)
    refine le_iload C (i := 5) (v := k) (by decide +kernel) rfl ?_
    refine le_icmp_eq C (off := 5) (t := 473) (by decide +kernel) (by decide) (fun _ => ?_) (fun q => absurd (t1.trans ek.symm) q)
    have fin : LB p l e s m below meth c b G (cc + 1) (ss + 6) 490 (sto (sto (lv0 i) 5 (.int k)) 6 (.int (xQ X 0 (fun ru W => jI (aRate ru W (xs (i + 1)).toInt (xs (i + 2)).toInt))))) [] τ := by
      refine le_goto C (off := 1117) (t := 1607) (by decide +kernel) (by decide) ?_
      refine le_sub (lv' := lv0 i) (fun q hq => ?_) (nxt (cc + 1) (ss + 6) τ X (Nat.le_refl _) (Nat.le_refl _) (hK1.lf f1) m1 (hX.le (by omega)))
      simp only [lv0, List.mem_cons, List.not_mem_nil, or_false] at hq
      rcases hq with rfl | rfl | rfl | rfl | rfl <;> simp [lv0, sto, ins, List.filter, Value.category]
    refine le_iload C (i := 5) (v := k) (by decide +kernel) rfl ?_
    refine le_if_ne C (off := 15) (t := 490) (by decide +kernel) (by decide) (fun _ => fin) (fun k0 => ?_)
    refine le_aload_n C (k := 3) (a := 122) (by decide +kernel) rfl ?_
    refine le_iconst C (n := 0) (v := 0) (by decide +kernel) rfl ?_
    refine le_laload C (by decide +kernel) ?_
    refine le_iload C (i := 6) (v := xQ X 0 (fun ru W => jI (aRate ru W (xs (i + 1)).toInt (xs (i + 2)).toInt))) (by decide +kernel) rfl ?_
    refine le_i2l C (by decide +kernel) ?_
    refine le_lcmp C (by decide +kernel) ?_
    refine le_if_eq C (off := 5) (t := 490) (by decide +kernel) (by decide) (fun _ => fin) (fun q => absurd ?_ q)
    rw [f2, eo k0]
    exact lg_same
  by_cases hn : ∃ ru, X.o = some ru ∧ isN ru (xs (i + 1)).toInt (xs (i + 2)).toInt
  · obtain ⟨ru, ho, hn⟩ := hn
    refine le_rate C (d := 10) (av := [.ref 0, .int (xs (i + 1)), .int (xs (i + 2)), .ref 122]) (rest := []) (by decide +kernel) rfl ⟨rfl, Nat.le_of_ble_eq_true rfl⟩ ⟨by omega, hb⟩ (l_rate (d := 9) (v := jI (aRate ru X.H.W (xs (i + 1)).toInt (xs (i + 2)).toInt)) hZ (Or.inl ⟨fun Q' h => k_rate (d := 8) (xs (i + 1)).toInt (xs (i + 2)).toInt (hK.kq hX ho) hn (jI_R _) (jI_R _) h (jI_of _).symm (jI_of _).symm, ?_⟩))
    refine tl9 0 _ rfl ?_ (fun _ => ?_)
    · rw [xQ_s ho, if_pos hn]
    · rw [xQ_s ho, uJ_s, updL_s]
  · have hno : ∀ Q' : Po, Q' (some (.int 0)) σ → MW l G 1 mX11_isNode [.ref 0, .int (xs (i + 1)), .int (xs (i + 2))] σ Q' := by
      intro Q' h
      cases ho : X.o with
      | none => exact k_isNode 0 (xs (i + 1)).toInt (xs (i + 2)).toInt (hK.no ho) (by omega) (jI_R _) (jI_R _) (by rw [if_neg (by omega)]; exact h) (jI_of _).symm (jI_of _).symm
      | some ru => exact k_isN (xs (i + 1)).toInt (xs (i + 2)).toInt (hK.kq hX ho) (jI_R _) (jI_R _) (by rw [if_neg (fun z => hn ⟨ru, ho, z⟩)]; exact h) (jI_of _).symm (jI_of _).symm
    refine le_rate C (d := 10) (av := [.ref 0, .int (xs (i + 1)), .int (xs (i + 2)), .ref 122]) (rest := []) (by decide +kernel) rfl ⟨rfl, Nat.le_of_ble_eq_true rfl⟩ ⟨by omega, hb⟩ (l_rate (d := 9) (v := 0) hZ (Or.inr ⟨kt_rate (d := 1) hfl hZ hno, ?_⟩))
    refine tl9 1 σ rfl ?_ (fun q => absurd q (by decide))
    cases ho : X.o with
    | none => rw [xQ_n ho]
    | some ru => rw [xQ_s ho, if_neg (fun z => hn ⟨ru, ho, z⟩)]
end LRt
