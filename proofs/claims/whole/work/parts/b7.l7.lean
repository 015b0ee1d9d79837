-- the class's rate where there is no node: it throws
def nsE : String := "java/util/NoSuchElementException"
def nsR : String := "java/lang/RuntimeException"
def nsX : String := "java/lang/Exception"
def by13 : ByteArray := ⟨#[0x2a, 0x2b, 0xb7, 0x00, 0x0d, 0xb1]⟩
def nsW : List Cond := (nsAt RX11 183 nsE nsR 13 by13 [nsX]).filter vx_no
def nsB : List Cond := [.castable nsE nsE, .declares (Bundle.initS nsR), .declares (Bundle.initS nsX), .declares (Bundle.initS Bundle.tN)]
theorem ns_ot : nsW.all vx_ot = true := by decide +kernel
theorem ns_tab : nsW.all (fun w => tables_1.any (fun v => decide (v = w))) = true := by decide +kernel
theorem ns_bad : (nsW.filter (fun w => !goodWord w)).all (fun w => nsB.any (fun v => decide (v = w))) = true := by decide +kernel
/-- what the throw needs of a state, beside the tables -/
def Zr (G : GT) (U : State) : Prop := vx_Zq Bundle.tN "UNASSIGNED_STACK" Bundle.steD (aX G) U U.heap ∧ vx_Zq Bundle.tN "SUPPRESSED_SENTINEL" Bundle.listD (aX G) U U.heap ∧ (∃ sa, vk_R RX11 181 "no such node" sa U) ∧ ∀ w ∈ nsB, va_Nw w U
def GR (G : GT) : Prop := ∀ U : State, G.2.2.2.2 U → Zr G U
def XCr (G : GT) (σ : Mm) : String → State → State → Prop := fun E st t => E = nsE ∧ va_P G.1 vwCl (wo G σ) t.heap ∧ va_F (aX G) st t
def rmT (d : Nat) : Room := { frames := d, cells := 1, slots := 6, locals := 96 * d }
theorem ns_hat {args : Array Value} {s : State} (hts : ∀ w ∈ gW, w.before args s = true) (hz : ∀ w ∈ nsB, va_Nw w s) : ∀ w ∈ nsW, w.before args s = true := by
  refine vx_hat (B := nsB) (fun w hw => ?_) (fun w hw => ?_) (fun w hw => ?_)
  · obtain ⟨h1, h2⟩ := List.mem_filter.mp hw
    obtain ⟨v, v1, v2⟩ := List.any_eq_true.mp (List.all_eq_true.mp ns_tab w h1)
    have v3 : v = w := of_decide_eq_true v2
    rw [v3] at v1
    exact hts w (List.mem_filter.mpr ⟨List.mem_append_right _ v1, h2⟩)
  · obtain ⟨v, v1, v2⟩ := List.any_eq_true.mp (List.all_eq_true.mp ns_bad w hw)
    have v3 : v = w := of_decide_eq_true v2
    rw [v3] at v1
    exact v1
  · have ho : w.onTables = true := by
      have : ∀ w ∈ nsB, w.onTables = true := by decide +kernel
      exact this w hw
    exact va_any ho (hz w hw)
theorem kt_rate {l : Launch} {G : GT} {d : Nat} {σ : Mm} {x y : Int32} (hl : l.stackTraces = false) (hZ : GR G) (hno : ∀ Q : Po, Q (some (.int 0)) σ → MW l G d mX11_isNode [.ref 0, .int x, .int y] σ Q) : vx_Met l yX11_rate (wsM mX11_rate) (rmT (d + 8)) (Pcx G [.ref 0, .int x, .int y] σ) (fun _ _ _ _ => False) (XCr G σ) 1 6 (aX G) := by
  refine vx_ofW (cc := cX11_rate) (maxL := 3) (ret := some .int) (by decide +kernel) rfl ?_
  intro p e s m args below meth c s1 B hml hex hv
  obtain ⟨rfl, hP, hKx⟩ := hv
  have hts0 := atoms_spec (ws := wsM mX11_rate) B.pre
  have hts : ∀ w ∈ gW, w.before _ s = true := fun w hw => hts0 w (List.mem_cons_of_mem _ hw)
  have hown : s.vm.findClass RX11 = some m.cls := findClass_of_methodNamed B.named
  have hx := B.exec
  have hb := B.bytes
  have hlocks := B.notSynchronized
  have hS : va_S (aX G) s.heap s.heap [] := va_S.rf
  have hz := hZ s hKx.2.1
  obtain ⟨sa, hsa⟩ := hz.2.2.1
  have hl0 := lv_entry (([.ref 0, .int x, .int y] : List Value).map (tv G)) (n := 3) (Nat.le_of_ble_eq_true rfl)
  rw [lg_entry_eq]
  generalize (lg_sl (([.ref 0, .int x, .int y] : List Value).map (tv G)) ++ List.replicate (3 - (lg_sl (([.ref 0, .int x, .int y] : List Value).map (tv G))).length) Slot.unset).toArray = ls at hl0 ⊢
  have hls : lv_has ls 3 [(0, .ref (G.2.1 0)), (1, .int x), (2, .int y)] := hl0
  refine lv_aload_n (k := 0) hx hb (by decide +kernel) rfl (lv_at hls 0 rfl) ?_
  refine lv_iload_n (k := 1) hx hb (by decide +kernel) rfl (lv_at hls 1 rfl) ?_
  refine lv_iload_n (k := 2) hx hb (by decide +kernel) rfl (lv_at hls 2 rfl) ?_
  refine w_callV (st := [.int y, .int x, .ref 0]) (G := G) (σ := σ) (own := RX11) (cb := cX11_rate) (M' := mX11_isNode) (n := 2) (idx := 165) (ci := 9) (a := 0) (d := d) (av := [.int x, .int y]) (rest := []) hx hb (hls.1.trans hml.symm) hown hts hKx (by decide +kernel) ml_X11_165 mv_X11_isNode rfl ⟨rfl, rfl, Nat.le_of_ble_eq_true rfl⟩ ⟨by show d + 1 ≤ d + 8; omega, by show 95 + 96 * d ≤ 96 * (d + 8); omega, by show 0 ≤ 1; omega, by show 0 ≤ 6; omega⟩ hP hS (hno (fun r σ' => r = some (.int 0) ∧ σ' = σ) ⟨rfl, rfl⟩) (fun r σ' H' locs' hQ hP' hS' => ?_)
  obtain ⟨rfl, rfl⟩ := hQ
  refine lv_if_ne (x := 0) (off := 13) (tgt := 19) (rest := []) hx hb (by decide +kernel) (by decide) (fun q => absurd rfl q) (fun _ => ?_)
  refine ns_make (own := RX11) (cls := nsE) (up := nsR) (text := "no such node") (names := [nsX]) (ik := 179) (is := 181) (ic := 183) (sa := sa) (i13 := 13) (by13 := by13) (A := aX G) hx hb hl (by decide +kernel) (by decide +kernel) (by decide +kernel) (by decide +kernel) (by decide +kernel) hown (by decide +kernel) (by decide +kernel) (hts _ (gw (i := 1001) (by decide +kernel) rfl)) (hts _ (gw (i := 23) (by decide +kernel) rfl)) hsa (ns_hat hts hz.2.2.2) (fun w hw => ?_) hz.1 hz.2.1 hS' (hls.1.trans hml.symm) (by decide +kernel) (by decide +kernel) (by decide +kernel) (by decide +kernel) (by show 1 + 4 < d + 8; omega) (by show 0 + (13 * (1 + 2) + 43) ≤ 96 * (d + 8); omega) (by show 0 + 1 ≤ 1; omega) (by show 0 + 6 ≤ 6; omega) (fun q H1 ce c1 c2 c3 f1 f2 => ?_)
  · rcases List.mem_cons.mp hw with rfl | hw
    · rfl
    · rcases List.mem_cons.mp hw with rfl | hw
      · rfl
      · exact List.all_eq_true.mp ns_ot w hw
  · refine ns_athrow hx hb (by decide +kernel) ?_
    refine vx_out (E := nsE) (ce := ce) (fun z hz => (hex z hz).elim) hlocks c1 c2 c3 (fun t ht hal => ⟨rfl, ?_, ?_⟩) (fun z hz => hS'.2.2 z hz) (Nat.le_refl _) (Nat.le_refl _)
    · rw [ht]
      exact hP'.kept (fun k x hx => f2 x.1 ((hP' k x hx).lt))
    · have hS1 : va_S (aX G) s.heap H1 locs' := ⟨Nat.le_trans hS'.1 f1, fun q h1 h2 => (f2 q (Nat.lt_of_lt_of_le h1 hS'.1)).trans (hS'.2.1 q h1 h2), hS'.2.2⟩
      exact hS1.F ht
