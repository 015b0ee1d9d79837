-- the law's cases
section LCs
variable {p : Program} {l : Launch} {e : Env} {s : State} {m : MethodId} {below : List Frame} {meth : Method} {c : Code} {b L i N : Nat} {xs : Nat → Int32} {G : GT} {cc ss : Nat} {σ : Mm} {X : Xw}
theorem ml_L_19 : Cond.methodLink R_law 19 yX11_feed ∈ gW := gw (i := 375) (by decide +kernel) rfl
theorem ml_L_23 : Cond.methodLink R_law 23 yX12_feed ∈ gW := gw (i := 1213) (by decide +kernel) rfl
theorem ml_L_24 : Cond.methodLink R_law 24 yX11_end ∈ gW := gw (i := 387) (by decide +kernel) rfl
theorem ml_L_28 : Cond.methodLink R_law 28 yX12_end ∈ gW := gw (i := 1224) (by decide +kernel) rfl
theorem ml_L_29 : Cond.methodLink R_law 29 yX11_fault ∈ gW := gw (i := 391) (by decide +kernel) rfl
theorem ml_L_33 : Cond.methodLink R_law 33 yX12_fault ∈ gW := gw (i := 1228) (by decide +kernel) rfl
theorem ml_L_34 : Cond.methodLink R_law 34 yX11_text ∈ gW := gw (i := 465) (by decide +kernel) rfl
theorem ml_L_37 : Cond.methodLink R_law 37 yX12_text ∈ gW := gw (i := 1357) (by decide +kernel) rfl
theorem ml_L_38 : Cond.methodLink R_law 38 yX11_rule ∈ gW := gw (i := 527) (by decide +kernel) rfl
theorem ml_L_41 : Cond.methodLink R_law 41 yX12_rule ∈ gW := gw (i := 1589) (by decide +kernel) rfl
theorem ml_L_52 : Cond.methodLink R_law 52 yX11_year ∈ gW := gw (i := 531) (by decide +kernel) rfl
theorem ml_L_55 : Cond.methodLink R_law 55 yX12_year ∈ gW := gw (i := 1598) (by decide +kernel) rfl
theorem ml_L_56 : Cond.methodLink R_law 56 yX11_costs ∈ gW := gw (i := 556) (by decide +kernel) rfl
theorem ml_L_60 : Cond.methodLink R_law 60 yX12_costs ∈ gW := gw (i := 1603) (by decide +kernel) rfl
theorem ml_L_61 : Cond.methodLink R_law 61 yX11_best ∈ gW := gw (i := 617) (by decide +kernel) rfl
theorem ml_L_64 : Cond.methodLink R_law 64 yX12_best ∈ gW := gw (i := 1613) (by decide +kernel) rfl
theorem ml_L_65 : Cond.methodLink R_law 65 yX11_up ∈ gW := gw (i := 621) (by decide +kernel) rfl
theorem ml_L_68 : Cond.methodLink R_law 68 yX12_up ∈ gW := gw (i := 1377) (by decide +kernel) rfl
theorem ml_L_69 : Cond.methodLink R_law 69 yX11_down ∈ gW := gw (i := 689) (by decide +kernel) rfl
theorem ml_L_72 : Cond.methodLink R_law 72 yX12_down ∈ gW := gw (i := 1516) (by decide +kernel) rfl
theorem ml_L_73 : Cond.methodLink R_law 73 yX11_call ∈ gW := gw (i := 693) (by decide +kernel) rfl
theorem ml_L_76 : Cond.methodLink R_law 76 yX12_call ∈ gW := gw (i := 1520) (by decide +kernel) rfl
theorem ml_L_77 : Cond.methodLink R_law 77 yX11_refund ∈ gW := gw (i := 697) (by decide +kernel) rfl
theorem ml_L_80 : Cond.methodLink R_law 80 yX12_refund ∈ gW := gw (i := 1524) (by decide +kernel) rfl
theorem ml_L_81 : Cond.methodLink R_law 81 yX11_withdraw ∈ gW := gw (i := 701) (by decide +kernel) rfl
theorem ml_L_84 : Cond.methodLink R_law 84 yX12_withdraw ∈ gW := gw (i := 1528) (by decide +kernel) rfl
theorem ml_L_85 : Cond.methodLink R_law 85 yX11_instal ∈ gW := gw (i := 705) (by decide +kernel) rfl
theorem ml_L_88 : Cond.methodLink R_law 88 yX12_instal ∈ gW := gw (i := 1532) (by decide +kernel) rfl
theorem ml_L_89 : Cond.methodLink R_law 89 yX11_tell ∈ gW := gw (i := 709) (by decide +kernel) rfl
theorem ml_L_93 : Cond.methodLink R_law 93 yX12_tell ∈ gW := gw (i := 1536) (by decide +kernel) rfl
theorem ml_L_94 : Cond.methodLink R_law 94 yX11_doBest ∈ gW := gw (i := 713) (by decide +kernel) rfl
theorem ml_L_97 : Cond.methodLink R_law 97 yX12_doBest ∈ gW := gw (i := 1540) (by decide +kernel) rfl
theorem ml_L_98 : Cond.methodLink R_law 98 yX11_adopt ∈ gW := gw (i := 717) (by decide +kernel) rfl
theorem ml_L_101 : Cond.methodLink R_law 101 yX12_adopt ∈ gW := gw (i := 1544) (by decide +kernel) rfl
theorem ml_L_102 : Cond.methodLink R_law 102 yX11_follow ∈ gW := gw (i := 721) (by decide +kernel) rfl
theorem ml_L_105 : Cond.methodLink R_law 105 yX12_follow ∈ gW := gw (i := 1548) (by decide +kernel) rfl
theorem ml_L_108 : Cond.methodLink R_law 108 yX11_years ∈ gW := gw (i := 725) (by decide +kernel) rfl
theorem ml_L_112 : Cond.methodLink R_law 112 yX12_years ∈ gW := gw (i := 1552) (by decide +kernel) rfl
theorem ml_L_113 : Cond.methodLink R_law 113 yX11_status ∈ gW := gw (i := 739) (by decide +kernel) rfl
theorem ml_L_116 : Cond.methodLink R_law 116 yX12_status ∈ gW := gw (i := 1567) (by decide +kernel) rfl
theorem ml_L_117 : Cond.methodLink R_law 117 yX11_undo ∈ gW := gw (i := 743) (by decide +kernel) rfl
theorem ml_L_120 : Cond.methodLink R_law 120 yX12_undo ∈ gW := gw (i := 1572) (by decide +kernel) rfl
theorem ml_L_121 : Cond.methodLink R_law 121 yX11_log ∈ gW := gw (i := 751) (by decide +kernel) rfl
theorem ml_L_124 : Cond.methodLink R_law 124 yX12_log ∈ gW := gw (i := 1576) (by decide +kernel) rfl
theorem ml_L_125 : Cond.methodLink R_law 125 yX11_way ∈ gW := gw (i := 766) (by decide +kernel) rfl
theorem ml_L_128 : Cond.methodLink R_law 128 yX12_way ∈ gW := gw (i := 1617) (by decide +kernel) rfl
theorem ml_L_129 : Cond.methodLink R_law 129 yX11_mass ∈ gW := gw (i := 806) (by decide +kernel) rfl
theorem ml_L_132 : Cond.methodLink R_law 132 yX12_mass ∈ gW := gw (i := 1646) (by decide +kernel) rfl
theorem ml_L_133 : Cond.methodLink R_law 133 yX11_masses ∈ gW := gw (i := 818) (by decide +kernel) rfl
theorem ml_L_136 : Cond.methodLink R_law 136 yX12_masses ∈ gW := gw (i := 1660) (by decide +kernel) rfl
theorem ml_L_137 : Cond.methodLink R_law 137 yX11_worth ∈ gW := gw (i := 830) (by decide +kernel) rfl
theorem ml_L_141 : Cond.methodLink R_law 141 yX12_worth ∈ gW := gw (i := 1668) (by decide +kernel) rfl
theorem ml_L_142 : Cond.methodLink R_law 142 yX11_margin ∈ gW := gw (i := 843) (by decide +kernel) rfl
theorem ml_L_145 : Cond.methodLink R_law 145 yX12_margin ∈ gW := gw (i := 1680) (by decide +kernel) rfl
theorem ml_L_146 : Cond.methodLink R_law 146 yX11_till ∈ gW := gw (i := 849) (by decide +kernel) rfl
theorem ml_L_149 : Cond.methodLink R_law 149 yX12_till ∈ gW := gw (i := 1684) (by decide +kernel) rfl
theorem ml_L_150 : Cond.methodLink R_law 150 yX11_edge ∈ gW := gw (i := 873) (by decide +kernel) rfl
theorem ml_L_153 : Cond.methodLink R_law 153 yX12_edge ∈ gW := gw (i := 1688) (by decide +kernel) rfl
theorem ml_L_154 : Cond.methodLink R_law 154 yX11_fair ∈ gW := gw (i := 877) (by decide +kernel) rfl
theorem ml_L_157 : Cond.methodLink R_law 157 yX12_fair ∈ gW := gw (i := 1696) (by decide +kernel) rfl
theorem ml_L_158 : Cond.methodLink R_law 158 yX11_ending ∈ gW := gw (i := 881) (by decide +kernel) rfl
theorem ml_L_161 : Cond.methodLink R_law 161 yX12_ending ∈ gW := gw (i := 1664) (by decide +kernel) rfl
theorem ml_L_162 : Cond.methodLink R_law 162 yX11_saved ∈ gW := gw (i := 885) (by decide +kernel) rfl
theorem ml_L_165 : Cond.methodLink R_law 165 yX12_saved ∈ gW := gw (i := 1692) (by decide +kernel) rfl
theorem ml_L_166 : Cond.methodLink R_law 166 yX11_sums ∈ gW := gw (i := 889) (by decide +kernel) rfl
theorem ml_L_169 : Cond.methodLink R_law 169 yX12_sums ∈ gW := gw (i := 1700) (by decide +kernel) rfl
theorem ml_L_170 : Cond.methodLink R_law 170 yX11_deed ∈ gW := gw (i := 893) (by decide +kernel) rfl
theorem ml_L_173 : Cond.methodLink R_law 173 yX12_deed ∈ gW := gw (i := 1710) (by decide +kernel) rfl
theorem ml_L_174 : Cond.methodLink R_law 174 yX11_byPolicy ∈ gW := gw (i := 897) (by decide +kernel) rfl
theorem ml_L_178 : Cond.methodLink R_law 178 yX12_byPolicy ∈ gW := gw (i := 1714) (by decide +kernel) rfl
theorem ml_L_179 : Cond.methodLink R_law 179 yX11_regret ∈ gW := gw (i := 901) (by decide +kernel) rfl
theorem ml_L_182 : Cond.methodLink R_law 182 yX12_regret ∈ gW := gw (i := 1718) (by decide +kernel) rfl
theorem ml_L_183 : Cond.methodLink R_law 183 yX11_strays ∈ gW := gw (i := 905) (by decide +kernel) rfl
theorem ml_L_186 : Cond.methodLink R_law 186 yX12_strays ∈ gW := gw (i := 1722) (by decide +kernel) rfl
theorem ml_L_187 : Cond.methodLink R_law 187 yX11_mended ∈ gW := gw (i := 909) (by decide +kernel) rfl
theorem ml_L_190 : Cond.methodLink R_law 190 yX12_mended ∈ gW := gw (i := 1726) (by decide +kernel) rfl
theorem ml_L_191 : Cond.methodLink R_law 191 yX11_rounds ∈ gW := gw (i := 914) (by decide +kernel) rfl
theorem ml_L_194 : Cond.methodLink R_law 194 yX12_rounds ∈ gW := gw (i := 1730) (by decide +kernel) rfl
theorem ml_L_195 : Cond.methodLink R_law 195 yX11_shifted ∈ gW := gw (i := 922) (by decide +kernel) rfl
theorem ml_L_199 : Cond.methodLink R_law 199 yX12_shifted ∈ gW := gw (i := 1704) (by decide +kernel) rfl
theorem ml_L_200 : Cond.methodLink R_law 200 yX11_spread ∈ gW := gw (i := 926) (by decide +kernel) rfl
theorem ml_L_203 : Cond.methodLink R_law 203 yX12_spread ∈ gW := gw (i := 1633) (by decide +kernel) rfl
theorem ml_L_204 : Cond.methodLink R_law 204 yX11_step ∈ gW := gw (i := 930) (by decide +kernel) rfl
theorem ml_L_207 : Cond.methodLink R_law 207 yX12_step ∈ gW := gw (i := 1738) (by decide +kernel) rfl
theorem ml_L_208 : Cond.methodLink R_law 208 yX11_run ∈ gW := gw (i := 948) (by decide +kernel) rfl
theorem ml_L_211 : Cond.methodLink R_law 211 yX12_run ∈ gW := gw (i := 1746) (by decide +kernel) rfl
theorem ml_L_212 : Cond.methodLink R_law 212 yX11_perform ∈ gW := gw (i := 956) (by decide +kernel) rfl
theorem ml_L_215 : Cond.methodLink R_law 215 yX12_perform ∈ gW := gw (i := 1750) (by decide +kernel) rfl
theorem ml_L_216 : Cond.methodLink R_law 216 yX11_most ∈ gW := gw (i := 960) (by decide +kernel) rfl
theorem ml_L_219 : Cond.methodLink R_law 219 yX12_most ∈ gW := gw (i := 1754) (by decide +kernel) rfl
theorem ml_L_220 : Cond.methodLink R_law 220 yX11_image ∈ gW := gw (i := 973) (by decide +kernel) rfl
theorem ml_L_223 : Cond.methodLink R_law 223 yX12_image ∈ gW := gw (i := 1581) (by decide +kernel) rfl
theorem ml_L_224 : Cond.methodLink R_law 224 yX11_back ∈ gW := gw (i := 981) (by decide +kernel) rfl
theorem ml_L_227 : Cond.methodLink R_law 227 yX12_back ∈ gW := gw (i := 1585) (by decide +kernel) rfl
theorem ml_L_228 : Cond.methodLink R_law 228 yX11_count ∈ gW := gw (i := 989) (by decide +kernel) rfl
theorem ml_L_231 : Cond.methodLink R_law 231 yX12_count ∈ gW := gw (i := 1766) (by decide +kernel) rfl
theorem lg_same {x : Int64} : lg_cmp x x = 0 := by unfold lg_cmp; simp
theorem MS.kf {σ τ : Mm} {X : Xw} (h : MS σ X) (f : KF σ τ) : MS τ X := h.fr (fun c hc => f c (by simp only [List.mem_cons, List.not_mem_nil, or_false] at hc; omega)) (fun k _ => by rw [f 98 (by omega)]) (fun j _ => by rw [f 106 (by omega)]) (fun j _ => by rw [f 107 (by omega)])
theorem KS.lf {σ τ : Mm} {X : Xw} (h : KS σ X) (f : LF σ τ) : KS τ X := h.fr (fun c hc _ => f c hc)
theorem lc_feed (C : Lcx G p s m meth c b L xs) (hi : i + 6 ≤ L) (hG : GX G) (hN : N < 800000) (hb : cc ≤ 601024 ∧ ss ≤ 7293034) (hK : KS σ X) (hM : MS σ X) (hX : XI N X) (nxt : ∀ τ Y, KS τ Y → MS τ Y → XI (N + 40) Y → LB p l e s m below meth c b G cc ss 1607 (lv0 i) [] τ) : LB p l e s m below meth c b G cc ss 252 (lv0 i) [] σ := by
  refine le_aload_n C (k := 1) (a := 0) (by decide +kernel) rfl ?_
  refine le_arg C (i := i) 1 (by omega) ⟨rfl, rfl⟩ (by decide +kernel) (by decide +kernel) (by decide +kernel) (by decide +kernel) (by decide +kernel) ?_
  refine le_arg C (i := i) 2 (by omega) ⟨rfl, rfl⟩ (by decide +kernel) (by decide +kernel) (by decide +kernel) (by decide +kernel) (by decide +kernel) ?_
  refine le_arg C (i := i) 3 (by omega) ⟨rfl, rfl⟩ (by decide +kernel) (by decide +kernel) (by decide +kernel) (by decide +kernel) (by decide +kernel) ?_
  refine le_arg C (i := i) 4 (by omega) ⟨rfl, rfl⟩ (by decide +kernel) (by decide +kernel) (by decide +kernel) (by decide +kernel) (by decide +kernel) ?_
  refine le_arg C (i := i) 5 (by omega) ⟨rfl, rfl⟩ (by decide +kernel) (by decide +kernel) (by decide +kernel) (by decide +kernel) (by decide +kernel) ?_
  refine le_callV C (idx := 19) (M' := mX11_feed) (a := 0) (av := [.int (xs (i + 1)), .int (xs (i + 2)), .int (xs (i + 3)), .int (xs (i + 4)), .int (xs (i + 5))]) (rest := []) (d := 53) (by decide +kernel) ml_L_19 mv_X11_feed rfl ⟨rfl, rfl, Nat.le_of_ble_eq_true rfl⟩ ⟨by omega, hb⟩ (kx_feed _ _ _ _ _ hK (fun τ f1 k1 => ?_))
  refine le_aload_n C (k := 2) (a := 98) (by decide +kernel) rfl ?_
  refine le_arg C (i := i) 1 (by omega) ⟨rfl, rfl⟩ (by decide +kernel) (by decide +kernel) (by decide +kernel) (by decide +kernel) (by decide +kernel) ?_
  refine le_arg C (i := i) 2 (by omega) ⟨rfl, rfl⟩ (by decide +kernel) (by decide +kernel) (by decide +kernel) (by decide +kernel) (by decide +kernel) ?_
  refine le_arg C (i := i) 3 (by omega) ⟨rfl, rfl⟩ (by decide +kernel) (by decide +kernel) (by decide +kernel) (by decide +kernel) (by decide +kernel) ?_
  refine le_arg C (i := i) 4 (by omega) ⟨rfl, rfl⟩ (by decide +kernel) (by decide +kernel) (by decide +kernel) (by decide +kernel) (by decide +kernel) ?_
  refine le_arg C (i := i) 5 (by omega) ⟨rfl, rfl⟩ (by decide +kernel) (by decide +kernel) (by decide +kernel) (by decide +kernel) (by decide +kernel) ?_
  refine le_callV C (idx := 23) (M' := mX12_feed) (a := 98) (av := [.int (xs (i + 1)), .int (xs (i + 2)), .int (xs (i + 3)), .int (xs (i + 4)), .int (xs (i + 5))]) (rest := [_]) (d := 53) (by decide +kernel) ml_L_23 mv_X12_feed rfl ⟨rfl, rfl, Nat.le_of_ble_eq_true rfl⟩ ⟨by omega, hb⟩ (cx_feed _ _ _ _ _ (hM.kf f1) (fun ρ f2 m2 => ?_))
  refine le_icmp_eq C (off := 1287) (t := 1607) (by decide +kernel) (by decide) (fun _ => ?_) (fun q => absurd rfl q)
  exact nxt ρ _ (k1.lf f2) m2 ((xFeed_X hX _ _ _ _ _).le (by omega))
theorem lc_end (C : Lcx G p s m meth c b L xs) (hi : i + 6 ≤ L) (hG : GX G) (hN : N < 800000) (hb : cc ≤ 601024 ∧ ss ≤ 7293034) (hK : KS σ X) (hM : MS σ X) (hX : XI N X) (nxt : ∀ τ Y, KS τ Y → MS τ Y → XI (N + 40) Y → LB p l e s m below meth c b G cc ss 1607 (lv0 i) [] τ) : LB p l e s m below meth c b G cc ss 325 (lv0 i) [] σ := by
  refine le_aload_n C (k := 1) (a := 0) (by decide +kernel) rfl ?_
  refine le_arg C (i := i) 1 (by omega) ⟨rfl, rfl⟩ (by decide +kernel) (by decide +kernel) (by decide +kernel) (by decide +kernel) (by decide +kernel) ?_
  refine le_callV C (idx := 24) (M' := mX11_end) (a := 0) (av := [.int (xs (i + 1))]) (rest := []) (d := 53) (by decide +kernel) ml_L_24 mv_X11_end rfl ⟨rfl, rfl, Nat.le_of_ble_eq_true rfl⟩ ⟨by omega, hb⟩ (kx_end hK (fun τ f1 k1 => ?_))
  refine le_aload_n C (k := 2) (a := 98) (by decide +kernel) rfl ?_
  refine le_arg C (i := i) 1 (by omega) ⟨rfl, rfl⟩ (by decide +kernel) (by decide +kernel) (by decide +kernel) (by decide +kernel) (by decide +kernel) ?_
  refine le_callV C (idx := 28) (M' := mX12_end) (a := 98) (av := [.int (xs (i + 1))]) (rest := [_]) (d := 53) (by decide +kernel) ml_L_28 mv_X12_end rfl ⟨rfl, rfl, Nat.le_of_ble_eq_true rfl⟩ ⟨by omega, hb⟩ (cx_end (hM.kf f1) (fun ρ f2 m2 => ?_))
  refine le_icmp_eq C (off := 1262) (t := 1607) (by decide +kernel) (by decide) (fun _ => ?_) (fun q => absurd rfl q)
  exact nxt ρ _ (k1.lf f2) m2 ((xEnd_X hX _).le (by omega))
theorem lc_fault (C : Lcx G p s m meth c b L xs) (hi : i + 6 ≤ L) (hG : GX G) (hN : N < 800000) (hb : cc ≤ 601024 ∧ ss ≤ 7293034) (hK : KS σ X) (hM : MS σ X) (hX : XI N X) (nxt : ∀ τ Y, KS τ Y → MS τ Y → XI (N + 40) Y → LB p l e s m below meth c b G cc ss 1607 (lv0 i) [] τ) : LB p l e s m below meth c b G cc ss 350 (lv0 i) [] σ := by
  refine le_aload_n C (k := 1) (a := 0) (by decide +kernel) rfl ?_
  refine le_arg C (i := i) 1 (by omega) ⟨rfl, rfl⟩ (by decide +kernel) (by decide +kernel) (by decide +kernel) (by decide +kernel) (by decide +kernel) ?_
  refine le_callV C (idx := 29) (M' := mX11_fault) (a := 0) (av := [.int (xs (i + 1))]) (rest := []) (d := 53) (by decide +kernel) ml_L_29 mv_X11_fault rfl ⟨rfl, rfl, Nat.le_of_ble_eq_true rfl⟩ ⟨by omega, hb⟩ (kx_fault hG hK (fun τ f1 k1 => ?_))
  refine le_aload_n C (k := 2) (a := 98) (by decide +kernel) rfl ?_
  refine le_arg C (i := i) 1 (by omega) ⟨rfl, rfl⟩ (by decide +kernel) (by decide +kernel) (by decide +kernel) (by decide +kernel) (by decide +kernel) ?_
  refine le_callV C (idx := 33) (M' := mX12_fault) (a := 98) (av := [.int (xs (i + 1))]) (rest := [_]) (d := 53) (by decide +kernel) ml_L_33 mv_X12_fault rfl ⟨rfl, rfl, Nat.le_of_ble_eq_true rfl⟩ ⟨by omega, hb⟩ (cx_fault hG (hM.kf f1) (fun ρ f2 m2 => ?_))
  refine le_icmp_eq C (off := 1237) (t := 1607) (by decide +kernel) (by decide) (fun _ => ?_) (fun q => absurd rfl q)
  exact nxt ρ _ (k1.lf f2) m2 (hX.le (by omega))
theorem lc_text (C : Lcx G p s m meth c b L xs) (hi : i + 6 ≤ L) (hG : GX G) (hN : N < 800000) (hb : cc ≤ 601024 ∧ ss ≤ 7293034) (hK : KS σ X) (hM : MS σ X) (hX : XI N X) (nxt : ∀ τ Y, KS τ Y → MS τ Y → XI (N + 40) Y → LB p l e s m below meth c b G cc ss 1607 (lv0 i) [] τ) : LB p l e s m below meth c b G cc ss 375 (lv0 i) [] σ := by
  refine le_aload_n C (k := 1) (a := 0) (by decide +kernel) rfl ?_
  refine le_arg C (i := i) 1 (by omega) ⟨rfl, rfl⟩ (by decide +kernel) (by decide +kernel) (by decide +kernel) (by decide +kernel) (by decide +kernel) ?_
  refine le_callV C (idx := 34) (M' := mX11_text) (a := 0) (av := [.int (xs (i + 1))]) (rest := []) (d := 53) (by decide +kernel) ml_L_34 mv_X11_text rfl ⟨rfl, rfl, Nat.le_of_ble_eq_true rfl⟩ ⟨by omega, hb⟩ (kx_text hG hK hX (fun τ f1 k1 => ?_))
  refine le_aload_n C (k := 2) (a := 98) (by decide +kernel) rfl ?_
  refine le_arg C (i := i) 1 (by omega) ⟨rfl, rfl⟩ (by decide +kernel) (by decide +kernel) (by decide +kernel) (by decide +kernel) (by decide +kernel) ?_
  refine le_callV C (idx := 37) (M' := mX12_text) (a := 98) (av := [.int (xs (i + 1))]) (rest := [_]) (d := 53) (by decide +kernel) ml_L_37 mv_X12_text rfl ⟨rfl, rfl, Nat.le_of_ble_eq_true rfl⟩ ⟨by omega, hb⟩ (cx_text hG (hM.kf f1) hX (fun ρ f2 m2 => ?_))
  refine le_icmp_eq C (off := 1212) (t := 1607) (by decide +kernel) (by decide) (fun _ => ?_) (fun q => absurd rfl q)
  exact nxt ρ _ (k1.lf f2) m2 ((xText_X hX _).le (by omega))
theorem lc_rule (C : Lcx G p s m meth c b L xs) (hi : i + 6 ≤ L) (hG : GX G) (hN : N < 800000) (hb : cc ≤ 601024 ∧ ss ≤ 7293034) (hK : KS σ X) (hM : MS σ X) (hX : XI N X) (nxt : ∀ τ Y, KS τ Y → MS τ Y → XI (N + 40) Y → LB p l e s m below meth c b G cc ss 1607 (lv0 i) [] τ) : LB p l e s m below meth c b G cc ss 400 (lv0 i) [] σ := by
  refine le_aload_n C (k := 1) (a := 0) (by decide +kernel) rfl ?_
  refine le_arg C (i := i) 1 (by omega) ⟨rfl, rfl⟩ (by decide +kernel) (by decide +kernel) (by decide +kernel) (by decide +kernel) (by decide +kernel) ?_
  refine le_callV C (idx := 38) (M' := mX11_rule) (a := 0) (av := [.int (xs (i + 1))]) (rest := []) (d := 53) (by decide +kernel) ml_L_38 mv_X11_rule rfl ⟨rfl, rfl, Nat.le_of_ble_eq_true rfl⟩ ⟨by omega, hb⟩ (kx_rule hK hX (fun τ f1 k1 => ?_))
  refine le_aload_n C (k := 2) (a := 98) (by decide +kernel) rfl ?_
  refine le_arg C (i := i) 1 (by omega) ⟨rfl, rfl⟩ (by decide +kernel) (by decide +kernel) (by decide +kernel) (by decide +kernel) (by decide +kernel) ?_
  refine le_callV C (idx := 41) (M' := mX12_rule) (a := 98) (av := [.int (xs (i + 1))]) (rest := [_]) (d := 53) (by decide +kernel) ml_L_41 mv_X12_rule rfl ⟨rfl, rfl, Nat.le_of_ble_eq_true rfl⟩ ⟨by omega, hb⟩ (cx_rule (hM.kf f1) hX (fun ρ f2 m2 => ?_))
  refine le_icmp_eq C (off := 1187) (t := 1607) (by decide +kernel) (by decide) (fun _ => ?_) (fun q => absurd rfl q)
  exact nxt ρ _ (k1.lf f2) m2 (hX.le (by omega))
theorem lc_year (C : Lcx G p s m meth c b L xs) (hi : i + 6 ≤ L) (hG : GX G) (hN : N < 800000) (hb : cc ≤ 601024 ∧ ss ≤ 7293034) (hK : KS σ X) (hM : MS σ X) (hX : XI N X) (nxt : ∀ τ Y, KS τ Y → MS τ Y → XI (N + 40) Y → LB p l e s m below meth c b G cc ss 1607 (lv0 i) [] τ) : LB p l e s m below meth c b G cc ss 493 (lv0 i) [] σ := by
  refine le_aload_n C (k := 1) (a := 0) (by decide +kernel) rfl ?_
  refine le_arg C (i := i) 1 (by omega) ⟨rfl, rfl⟩ (by decide +kernel) (by decide +kernel) (by decide +kernel) (by decide +kernel) (by decide +kernel) ?_
  refine le_arg C (i := i) 2 (by omega) ⟨rfl, rfl⟩ (by decide +kernel) (by decide +kernel) (by decide +kernel) (by decide +kernel) (by decide +kernel) ?_
  refine le_callV C (idx := 52) (M' := mX11_year) (a := 0) (av := [.int (xs (i + 1)), .int (xs (i + 2))]) (rest := []) (d := 53) (by decide +kernel) ml_L_52 mv_X11_year rfl ⟨rfl, rfl, Nat.le_of_ble_eq_true rfl⟩ ⟨by omega, hb⟩ (kx_year hK hX (fun τ f1 k1 => ?_))
  refine le_aload_n C (k := 2) (a := 98) (by decide +kernel) rfl ?_
  refine le_arg C (i := i) 1 (by omega) ⟨rfl, rfl⟩ (by decide +kernel) (by decide +kernel) (by decide +kernel) (by decide +kernel) (by decide +kernel) ?_
  refine le_arg C (i := i) 2 (by omega) ⟨rfl, rfl⟩ (by decide +kernel) (by decide +kernel) (by decide +kernel) (by decide +kernel) (by decide +kernel) ?_
  refine le_callV C (idx := 55) (M' := mX12_year) (a := 98) (av := [.int (xs (i + 1)), .int (xs (i + 2))]) (rest := [_]) (d := 53) (by decide +kernel) ml_L_55 mv_X12_year rfl ⟨rfl, rfl, Nat.le_of_ble_eq_true rfl⟩ ⟨by omega, hb⟩ (cx_year (hM.kf f1) hX (fun ρ f2 m2 => ?_))
  refine le_icmp_eq C (off := 1082) (t := 1607) (by decide +kernel) (by decide) (fun _ => ?_) (fun q => absurd rfl q)
  exact nxt ρ _ (k1.lf f2) m2 (hX.le (by omega))
theorem lc_costs (C : Lcx G p s m meth c b L xs) (hi : i + 6 ≤ L) (hG : GX G) (hN : N < 800000) (hb : cc ≤ 601024 ∧ ss ≤ 7293034) (hK : KS σ X) (hM : MS σ X) (hX : XI N X) (nxt : ∀ τ Y, KS τ Y → MS τ Y → XI (N + 40) Y → LB p l e s m below meth c b G cc ss 1607 (lv0 i) [] τ) : LB p l e s m below meth c b G cc ss 530 (lv0 i) [] σ := by
  refine le_aload_n C (k := 1) (a := 0) (by decide +kernel) rfl ?_
  refine le_arg C (i := i) 1 (by omega) ⟨rfl, rfl⟩ (by decide +kernel) (by decide +kernel) (by decide +kernel) (by decide +kernel) (by decide +kernel) ?_
  refine le_arg C (i := i) 2 (by omega) ⟨rfl, rfl⟩ (by decide +kernel) (by decide +kernel) (by decide +kernel) (by decide +kernel) (by decide +kernel) ?_
  refine le_arg C (i := i) 3 (by omega) ⟨rfl, rfl⟩ (by decide +kernel) (by decide +kernel) (by decide +kernel) (by decide +kernel) (by decide +kernel) ?_
  refine le_callV C (idx := 56) (M' := mX11_costs) (a := 0) (av := [.int (xs (i + 1)), .int (xs (i + 2)), .int (xs (i + 3))]) (rest := []) (d := 53) (by decide +kernel) ml_L_56 mv_X11_costs rfl ⟨rfl, rfl, Nat.le_of_ble_eq_true rfl⟩ ⟨by omega, hb⟩ (kx_costs hK hX (fun τ f1 k1 => ?_))
  refine le_aload_n C (k := 2) (a := 98) (by decide +kernel) rfl ?_
  refine le_arg C (i := i) 1 (by omega) ⟨rfl, rfl⟩ (by decide +kernel) (by decide +kernel) (by decide +kernel) (by decide +kernel) (by decide +kernel) ?_
  refine le_arg C (i := i) 2 (by omega) ⟨rfl, rfl⟩ (by decide +kernel) (by decide +kernel) (by decide +kernel) (by decide +kernel) (by decide +kernel) ?_
  refine le_arg C (i := i) 3 (by omega) ⟨rfl, rfl⟩ (by decide +kernel) (by decide +kernel) (by decide +kernel) (by decide +kernel) (by decide +kernel) ?_
  refine le_callV C (idx := 60) (M' := mX12_costs) (a := 98) (av := [.int (xs (i + 1)), .int (xs (i + 2)), .int (xs (i + 3))]) (rest := [_]) (d := 53) (by decide +kernel) ml_L_60 mv_X12_costs rfl ⟨rfl, rfl, Nat.le_of_ble_eq_true rfl⟩ ⟨by omega, hb⟩ (cx_costs (hM.kf f1) hX (fun ρ f2 m2 => ?_))
  refine le_lcmp C (by decide +kernel) ?_
  refine le_if_eq C (off := 1032) (t := 1607) (by decide +kernel) (by decide) (fun _ => ?_) (fun q => absurd lg_same q)
  exact nxt ρ _ (k1.lf f2) m2 (hX.le (by omega))
theorem lc_best (C : Lcx G p s m meth c b L xs) (hi : i + 6 ≤ L) (hG : GX G) (hN : N < 800000) (hb : cc ≤ 601024 ∧ ss ≤ 7293034) (hK : KS σ X) (hM : MS σ X) (hX : XI N X) (nxt : ∀ τ Y, KS τ Y → MS τ Y → XI (N + 40) Y → LB p l e s m below meth c b G cc ss 1607 (lv0 i) [] τ) : LB p l e s m below meth c b G cc ss 580 (lv0 i) [] σ := by
  refine le_aload_n C (k := 1) (a := 0) (by decide +kernel) rfl ?_
  refine le_arg C (i := i) 1 (by omega) ⟨rfl, rfl⟩ (by decide +kernel) (by decide +kernel) (by decide +kernel) (by decide +kernel) (by decide +kernel) ?_
  refine le_arg C (i := i) 2 (by omega) ⟨rfl, rfl⟩ (by decide +kernel) (by decide +kernel) (by decide +kernel) (by decide +kernel) (by decide +kernel) ?_
  refine le_callV C (idx := 61) (M' := mX11_best) (a := 0) (av := [.int (xs (i + 1)), .int (xs (i + 2))]) (rest := []) (d := 53) (by decide +kernel) ml_L_61 mv_X11_best rfl ⟨rfl, rfl, Nat.le_of_ble_eq_true rfl⟩ ⟨by omega, hb⟩ (kx_best hK hX (fun τ f1 k1 => ?_))
  refine le_aload_n C (k := 2) (a := 98) (by decide +kernel) rfl ?_
  refine le_arg C (i := i) 1 (by omega) ⟨rfl, rfl⟩ (by decide +kernel) (by decide +kernel) (by decide +kernel) (by decide +kernel) (by decide +kernel) ?_
  refine le_arg C (i := i) 2 (by omega) ⟨rfl, rfl⟩ (by decide +kernel) (by decide +kernel) (by decide +kernel) (by decide +kernel) (by decide +kernel) ?_
  refine le_callV C (idx := 64) (M' := mX12_best) (a := 98) (av := [.int (xs (i + 1)), .int (xs (i + 2))]) (rest := [_]) (d := 53) (by decide +kernel) ml_L_64 mv_X12_best rfl ⟨rfl, rfl, Nat.le_of_ble_eq_true rfl⟩ ⟨by omega, hb⟩ (cx_best (hM.kf f1) hX (fun ρ f2 m2 => ?_))
  refine le_icmp_eq C (off := 995) (t := 1607) (by decide +kernel) (by decide) (fun _ => ?_) (fun q => absurd rfl q)
  exact nxt ρ _ (k1.lf f2) m2 (hX.le (by omega))
theorem lc_up (C : Lcx G p s m meth c b L xs) (hi : i + 6 ≤ L) (hG : GX G) (hN : N < 800000) (hb : cc ≤ 601024 ∧ ss ≤ 7293034) (hK : KS σ X) (hM : MS σ X) (hX : XI N X) (nxt : ∀ τ Y, KS τ Y → MS τ Y → XI (N + 40) Y → LB p l e s m below meth c b G cc ss 1607 (lv0 i) [] τ) : LB p l e s m below meth c b G cc ss 617 (lv0 i) [] σ := by
  refine le_aload_n C (k := 1) (a := 0) (by decide +kernel) rfl ?_
  refine le_callV C (idx := 65) (M' := mX11_up) (a := 0) (av := []) (rest := []) (d := 53) (by decide +kernel) ml_L_65 mv_X11_up rfl ⟨rfl, rfl, Nat.le_of_ble_eq_true rfl⟩ ⟨by omega, hb⟩ (kx_up (by omega) hK hX (fun τ f1 k1 => ?_))
  refine le_aload_n C (k := 2) (a := 98) (by decide +kernel) rfl ?_
  refine le_callV C (idx := 68) (M' := mX12_up) (a := 98) (av := []) (rest := [_]) (d := 53) (by decide +kernel) ml_L_68 mv_X12_up rfl ⟨rfl, rfl, Nat.le_of_ble_eq_true rfl⟩ ⟨by omega, hb⟩ (cx_up (hM.kf f1) hX (fun ρ f2 m2 => ?_))
  refine le_icmp_eq C (off := 982) (t := 1607) (by decide +kernel) (by decide) (fun _ => ?_) (fun q => absurd rfl q)
  exact nxt ρ _ (k1.lf f2) m2 ((xAct_X hX _ _ _ _ (by omega)).le (by omega))
theorem lc_down (C : Lcx G p s m meth c b L xs) (hi : i + 6 ≤ L) (hG : GX G) (hN : N < 800000) (hb : cc ≤ 601024 ∧ ss ≤ 7293034) (hK : KS σ X) (hM : MS σ X) (hX : XI N X) (nxt : ∀ τ Y, KS τ Y → MS τ Y → XI (N + 40) Y → LB p l e s m below meth c b G cc ss 1607 (lv0 i) [] τ) : LB p l e s m below meth c b G cc ss 630 (lv0 i) [] σ := by
  refine le_aload_n C (k := 1) (a := 0) (by decide +kernel) rfl ?_
  refine le_callV C (idx := 69) (M' := mX11_down) (a := 0) (av := []) (rest := []) (d := 53) (by decide +kernel) ml_L_69 mv_X11_down rfl ⟨rfl, rfl, Nat.le_of_ble_eq_true rfl⟩ ⟨by omega, hb⟩ (kx_down (by omega) hK hX (fun τ f1 k1 => ?_))
  refine le_aload_n C (k := 2) (a := 98) (by decide +kernel) rfl ?_
  refine le_callV C (idx := 72) (M' := mX12_down) (a := 98) (av := []) (rest := [_]) (d := 53) (by decide +kernel) ml_L_72 mv_X12_down rfl ⟨rfl, rfl, Nat.le_of_ble_eq_true rfl⟩ ⟨by omega, hb⟩ (cx_down (hM.kf f1) hX (fun ρ f2 m2 => ?_))
  refine le_icmp_eq C (off := 969) (t := 1607) (by decide +kernel) (by decide) (fun _ => ?_) (fun q => absurd rfl q)
  exact nxt ρ _ (k1.lf f2) m2 ((xAct_X hX _ _ _ _ (by omega)).le (by omega))
theorem lc_call (C : Lcx G p s m meth c b L xs) (hi : i + 6 ≤ L) (hG : GX G) (hN : N < 800000) (hb : cc ≤ 601024 ∧ ss ≤ 7293034) (hK : KS σ X) (hM : MS σ X) (hX : XI N X) (nxt : ∀ τ Y, KS τ Y → MS τ Y → XI (N + 40) Y → LB p l e s m below meth c b G cc ss 1607 (lv0 i) [] τ) : LB p l e s m below meth c b G cc ss 643 (lv0 i) [] σ := by
  refine le_aload_n C (k := 1) (a := 0) (by decide +kernel) rfl ?_
  refine le_callV C (idx := 73) (M' := mX11_call) (a := 0) (av := []) (rest := []) (d := 53) (by decide +kernel) ml_L_73 mv_X11_call rfl ⟨rfl, rfl, Nat.le_of_ble_eq_true rfl⟩ ⟨by omega, hb⟩ (kx_call (by omega) hK hX (fun τ f1 k1 => ?_))
  refine le_aload_n C (k := 2) (a := 98) (by decide +kernel) rfl ?_
  refine le_callV C (idx := 76) (M' := mX12_call) (a := 98) (av := []) (rest := [_]) (d := 53) (by decide +kernel) ml_L_76 mv_X12_call rfl ⟨rfl, rfl, Nat.le_of_ble_eq_true rfl⟩ ⟨by omega, hb⟩ (cx_call (hM.kf f1) hX (fun ρ f2 m2 => ?_))
  refine le_icmp_eq C (off := 956) (t := 1607) (by decide +kernel) (by decide) (fun _ => ?_) (fun q => absurd rfl q)
  exact nxt ρ _ (k1.lf f2) m2 ((xAct_X hX _ _ _ _ (by omega)).le (by omega))
theorem lc_refund (C : Lcx G p s m meth c b L xs) (hi : i + 6 ≤ L) (hG : GX G) (hN : N < 800000) (hb : cc ≤ 601024 ∧ ss ≤ 7293034) (hK : KS σ X) (hM : MS σ X) (hX : XI N X) (nxt : ∀ τ Y, KS τ Y → MS τ Y → XI (N + 40) Y → LB p l e s m below meth c b G cc ss 1607 (lv0 i) [] τ) : LB p l e s m below meth c b G cc ss 656 (lv0 i) [] σ := by
  refine le_aload_n C (k := 1) (a := 0) (by decide +kernel) rfl ?_
  refine le_callV C (idx := 77) (M' := mX11_refund) (a := 0) (av := []) (rest := []) (d := 53) (by decide +kernel) ml_L_77 mv_X11_refund rfl ⟨rfl, rfl, Nat.le_of_ble_eq_true rfl⟩ ⟨by omega, hb⟩ (kx_refund (by omega) hK hX (fun τ f1 k1 => ?_))
  refine le_aload_n C (k := 2) (a := 98) (by decide +kernel) rfl ?_
  refine le_callV C (idx := 80) (M' := mX12_refund) (a := 98) (av := []) (rest := [_]) (d := 53) (by decide +kernel) ml_L_80 mv_X12_refund rfl ⟨rfl, rfl, Nat.le_of_ble_eq_true rfl⟩ ⟨by omega, hb⟩ (cx_refund (hM.kf f1) hX (fun ρ f2 m2 => ?_))
  refine le_icmp_eq C (off := 943) (t := 1607) (by decide +kernel) (by decide) (fun _ => ?_) (fun q => absurd rfl q)
  exact nxt ρ _ (k1.lf f2) m2 ((xAct_X hX _ _ _ _ (by omega)).le (by omega))
theorem lc_withdraw (C : Lcx G p s m meth c b L xs) (hi : i + 6 ≤ L) (hG : GX G) (hN : N < 800000) (hb : cc ≤ 601024 ∧ ss ≤ 7293034) (hK : KS σ X) (hM : MS σ X) (hX : XI N X) (nxt : ∀ τ Y, KS τ Y → MS τ Y → XI (N + 40) Y → LB p l e s m below meth c b G cc ss 1607 (lv0 i) [] τ) : LB p l e s m below meth c b G cc ss 669 (lv0 i) [] σ := by
  refine le_aload_n C (k := 1) (a := 0) (by decide +kernel) rfl ?_
  refine le_callV C (idx := 81) (M' := mX11_withdraw) (a := 0) (av := []) (rest := []) (d := 53) (by decide +kernel) ml_L_81 mv_X11_withdraw rfl ⟨rfl, rfl, Nat.le_of_ble_eq_true rfl⟩ ⟨by omega, hb⟩ (kx_withdraw (by omega) hK hX (fun τ f1 k1 => ?_))
  refine le_aload_n C (k := 2) (a := 98) (by decide +kernel) rfl ?_
  refine le_callV C (idx := 84) (M' := mX12_withdraw) (a := 98) (av := []) (rest := [_]) (d := 53) (by decide +kernel) ml_L_84 mv_X12_withdraw rfl ⟨rfl, rfl, Nat.le_of_ble_eq_true rfl⟩ ⟨by omega, hb⟩ (cx_withdraw (hM.kf f1) hX (fun ρ f2 m2 => ?_))
  refine le_icmp_eq C (off := 930) (t := 1607) (by decide +kernel) (by decide) (fun _ => ?_) (fun q => absurd rfl q)
  exact nxt ρ _ (k1.lf f2) m2 ((xAct_X hX _ _ _ _ (by omega)).le (by omega))
theorem lc_instal (C : Lcx G p s m meth c b L xs) (hi : i + 6 ≤ L) (hG : GX G) (hN : N < 800000) (hb : cc ≤ 601024 ∧ ss ≤ 7293034) (hK : KS σ X) (hM : MS σ X) (hX : XI N X) (nxt : ∀ τ Y, KS τ Y → MS τ Y → XI (N + 40) Y → LB p l e s m below meth c b G cc ss 1607 (lv0 i) [] τ) : LB p l e s m below meth c b G cc ss 682 (lv0 i) [] σ := by
  refine le_aload_n C (k := 1) (a := 0) (by decide +kernel) rfl ?_
  refine le_arg C (i := i) 1 (by omega) ⟨rfl, rfl⟩ (by decide +kernel) (by decide +kernel) (by decide +kernel) (by decide +kernel) (by decide +kernel) ?_
  refine le_arg C (i := i) 2 (by omega) ⟨rfl, rfl⟩ (by decide +kernel) (by decide +kernel) (by decide +kernel) (by decide +kernel) (by decide +kernel) ?_
  refine le_callV C (idx := 85) (M' := mX11_instal) (a := 0) (av := [.int (xs (i + 1)), .int (xs (i + 2))]) (rest := []) (d := 53) (by decide +kernel) ml_L_85 mv_X11_instal rfl ⟨rfl, rfl, Nat.le_of_ble_eq_true rfl⟩ ⟨by omega, hb⟩ (kx_instal (by omega) hK hX (fun τ f1 k1 => ?_))
  refine le_aload_n C (k := 2) (a := 98) (by decide +kernel) rfl ?_
  refine le_arg C (i := i) 1 (by omega) ⟨rfl, rfl⟩ (by decide +kernel) (by decide +kernel) (by decide +kernel) (by decide +kernel) (by decide +kernel) ?_
  refine le_arg C (i := i) 2 (by omega) ⟨rfl, rfl⟩ (by decide +kernel) (by decide +kernel) (by decide +kernel) (by decide +kernel) (by decide +kernel) ?_
  refine le_callV C (idx := 88) (M' := mX12_instal) (a := 98) (av := [.int (xs (i + 1)), .int (xs (i + 2))]) (rest := [_]) (d := 53) (by decide +kernel) ml_L_88 mv_X12_instal rfl ⟨rfl, rfl, Nat.le_of_ble_eq_true rfl⟩ ⟨by omega, hb⟩ (cx_instal (hM.kf f1) hX (fun ρ f2 m2 => ?_))
  refine le_icmp_eq C (off := 893) (t := 1607) (by decide +kernel) (by decide) (fun _ => ?_) (fun q => absurd rfl q)
  exact nxt ρ _ (k1.lf f2) m2 ((xAct_X hX _ _ _ _ (by omega)).le (by omega))
theorem lc_tell (C : Lcx G p s m meth c b L xs) (hi : i + 6 ≤ L) (hG : GX G) (hN : N < 800000) (hb : cc ≤ 601024 ∧ ss ≤ 7293034) (hK : KS σ X) (hM : MS σ X) (hX : XI N X) (nxt : ∀ τ Y, KS τ Y → MS τ Y → XI (N + 40) Y → LB p l e s m below meth c b G cc ss 1607 (lv0 i) [] τ) : LB p l e s m below meth c b G cc ss 719 (lv0 i) [] σ := by
  refine le_aload_n C (k := 1) (a := 0) (by decide +kernel) rfl ?_
  refine le_arg C (i := i) 1 (by omega) ⟨rfl, rfl⟩ (by decide +kernel) (by decide +kernel) (by decide +kernel) (by decide +kernel) (by decide +kernel) ?_
  refine le_arg C (i := i) 2 (by omega) ⟨rfl, rfl⟩ (by decide +kernel) (by decide +kernel) (by decide +kernel) (by decide +kernel) (by decide +kernel) ?_
  refine le_arg C (i := i) 3 (by omega) ⟨rfl, rfl⟩ (by decide +kernel) (by decide +kernel) (by decide +kernel) (by decide +kernel) (by decide +kernel) ?_
  refine le_callV C (idx := 89) (M' := mX11_tell) (a := 0) (av := [.int (xs (i + 1)), .int (xs (i + 2)), .int (xs (i + 3))]) (rest := []) (d := 53) (by decide +kernel) ml_L_89 mv_X11_tell rfl ⟨rfl, rfl, Nat.le_of_ble_eq_true rfl⟩ ⟨by omega, hb⟩ (kx_tell (by omega) hK hX (fun τ f1 k1 => ?_))
  refine le_aload_n C (k := 2) (a := 98) (by decide +kernel) rfl ?_
  refine le_arg C (i := i) 1 (by omega) ⟨rfl, rfl⟩ (by decide +kernel) (by decide +kernel) (by decide +kernel) (by decide +kernel) (by decide +kernel) ?_
  refine le_arg C (i := i) 2 (by omega) ⟨rfl, rfl⟩ (by decide +kernel) (by decide +kernel) (by decide +kernel) (by decide +kernel) (by decide +kernel) ?_
  refine le_arg C (i := i) 3 (by omega) ⟨rfl, rfl⟩ (by decide +kernel) (by decide +kernel) (by decide +kernel) (by decide +kernel) (by decide +kernel) ?_
  refine le_callV C (idx := 93) (M' := mX12_tell) (a := 98) (av := [.int (xs (i + 1)), .int (xs (i + 2)), .int (xs (i + 3))]) (rest := [_]) (d := 53) (by decide +kernel) ml_L_93 mv_X12_tell rfl ⟨rfl, rfl, Nat.le_of_ble_eq_true rfl⟩ ⟨by omega, hb⟩ (cx_tell (hM.kf f1) hX (fun ρ f2 m2 => ?_))
  refine le_icmp_eq C (off := 844) (t := 1607) (by decide +kernel) (by decide) (fun _ => ?_) (fun q => absurd rfl q)
  exact nxt ρ _ (k1.lf f2) m2 ((xAct_X hX _ _ _ _ (by omega)).le (by omega))
theorem lc_doBest (C : Lcx G p s m meth c b L xs) (hi : i + 6 ≤ L) (hG : GX G) (hN : N < 800000) (hb : cc ≤ 601024 ∧ ss ≤ 7293034) (hK : KS σ X) (hM : MS σ X) (hX : XI N X) (nxt : ∀ τ Y, KS τ Y → MS τ Y → XI (N + 40) Y → LB p l e s m below meth c b G cc ss 1607 (lv0 i) [] τ) : LB p l e s m below meth c b G cc ss 768 (lv0 i) [] σ := by
  refine le_aload_n C (k := 1) (a := 0) (by decide +kernel) rfl ?_
  refine le_callV C (idx := 94) (M' := mX11_doBest) (a := 0) (av := []) (rest := []) (d := 53) (by decide +kernel) ml_L_94 mv_X11_doBest rfl ⟨rfl, rfl, Nat.le_of_ble_eq_true rfl⟩ ⟨by omega, hb⟩ (kx_doBest (by omega) hK hX (fun τ f1 k1 => ?_))
  refine le_aload_n C (k := 2) (a := 98) (by decide +kernel) rfl ?_
  refine le_callV C (idx := 97) (M' := mX12_doBest) (a := 98) (av := []) (rest := [_]) (d := 53) (by decide +kernel) ml_L_97 mv_X12_doBest rfl ⟨rfl, rfl, Nat.le_of_ble_eq_true rfl⟩ ⟨by omega, hb⟩ (cx_doBest (hM.kf f1) hX (fun ρ f2 m2 => ?_))
  refine le_icmp_eq C (off := 831) (t := 1607) (by decide +kernel) (by decide) (fun _ => ?_) (fun q => absurd rfl q)
  exact nxt ρ _ (k1.lf f2) m2 ((xAct_X hX _ _ _ _ (by omega)).le (by omega))
theorem lc_adopt (C : Lcx G p s m meth c b L xs) (hi : i + 6 ≤ L) (hG : GX G) (hN : N < 800000) (hb : cc ≤ 601024 ∧ ss ≤ 7293034) (hK : KS σ X) (hM : MS σ X) (hX : XI N X) (nxt : ∀ τ Y, KS τ Y → MS τ Y → XI (N + 40) Y → LB p l e s m below meth c b G cc ss 1607 (lv0 i) [] τ) : LB p l e s m below meth c b G cc ss 781 (lv0 i) [] σ := by
  refine le_aload_n C (k := 1) (a := 0) (by decide +kernel) rfl ?_
  refine le_callV C (idx := 98) (M' := mX11_adopt) (a := 0) (av := []) (rest := []) (d := 53) (by decide +kernel) ml_L_98 mv_X11_adopt rfl ⟨rfl, rfl, Nat.le_of_ble_eq_true rfl⟩ ⟨by omega, hb⟩ (kx_adopt (by omega) hK hX (fun τ f1 k1 => ?_))
  refine le_aload_n C (k := 2) (a := 98) (by decide +kernel) rfl ?_
  refine le_callV C (idx := 101) (M' := mX12_adopt) (a := 98) (av := []) (rest := [_]) (d := 53) (by decide +kernel) ml_L_101 mv_X12_adopt rfl ⟨rfl, rfl, Nat.le_of_ble_eq_true rfl⟩ ⟨by omega, hb⟩ (cx_adopt (hM.kf f1) hX (fun ρ f2 m2 => ?_))
  refine le_icmp_eq C (off := 818) (t := 1607) (by decide +kernel) (by decide) (fun _ => ?_) (fun q => absurd rfl q)
  exact nxt ρ _ (k1.lf f2) m2 ((xAct_X hX _ _ _ _ (by omega)).le (by omega))
theorem lc_follow (C : Lcx G p s m meth c b L xs) (hi : i + 6 ≤ L) (hG : GX G) (hN : N < 800000) (hb : cc ≤ 601024 ∧ ss ≤ 7293034) (hK : KS σ X) (hM : MS σ X) (hX : XI N X) (nxt : ∀ τ Y, KS τ Y → MS τ Y → XI (N + 40) Y → LB p l e s m below meth c b G cc ss 1607 (lv0 i) [] τ) : LB p l e s m below meth c b G cc ss 794 (lv0 i) [] σ := by
  refine le_aload_n C (k := 1) (a := 0) (by decide +kernel) rfl ?_
  refine le_callV C (idx := 102) (M' := mX11_follow) (a := 0) (av := []) (rest := []) (d := 53) (by decide +kernel) ml_L_102 mv_X11_follow rfl ⟨rfl, rfl, Nat.le_of_ble_eq_true rfl⟩ ⟨by omega, hb⟩ (kx_follow (by omega) hK hX (fun τ f1 k1 => ?_))
  refine le_aload_n C (k := 2) (a := 98) (by decide +kernel) rfl ?_
  refine le_callV C (idx := 105) (M' := mX12_follow) (a := 98) (av := []) (rest := [_]) (d := 53) (by decide +kernel) ml_L_105 mv_X12_follow rfl ⟨rfl, rfl, Nat.le_of_ble_eq_true rfl⟩ ⟨by omega, hb⟩ (cx_follow (hM.kf f1) hX (fun ρ f2 m2 => ?_))
  refine le_icmp_eq C (off := 805) (t := 1607) (by decide +kernel) (by decide) (fun _ => ?_) (fun q => absurd rfl q)
  exact nxt ρ _ (k1.lf f2) m2 ((xAct_X hX _ _ _ _ (by omega)).le (by omega))
theorem lc_years (C : Lcx G p s m meth c b L xs) (hi : i + 6 ≤ L) (hG : GX G) (hN : N < 800000) (hb : cc ≤ 601024 ∧ ss ≤ 7293034) (hK : KS σ X) (hM : MS σ X) (hX : XI N X) (nxt : ∀ τ Y, KS τ Y → MS τ Y → XI (N + 40) Y → LB p l e s m below meth c b G cc ss 1607 (lv0 i) [] τ) : LB p l e s m below meth c b G cc ss 807 (lv0 i) [] σ := by
  refine le_aload_n C (k := 1) (a := 0) (by decide +kernel) rfl ?_
  refine le_arg C (i := i) 1 (by omega) ⟨rfl, rfl⟩ (by decide +kernel) (by decide +kernel) (by decide +kernel) (by decide +kernel) (by decide +kernel) ?_
  refine le_arg C (i := i) 2 (by omega) ⟨rfl, rfl⟩ (by decide +kernel) (by decide +kernel) (by decide +kernel) (by decide +kernel) (by decide +kernel) ?_
  refine le_i2l C (by decide +kernel) ?_
  refine le_bipush C (n := 32) (v := 32) (by decide +kernel) rfl ?_
  refine le_lshl C (by decide +kernel) ?_
  refine le_arg C (i := i) 3 (by omega) ⟨rfl, rfl⟩ (by decide +kernel) (by decide +kernel) (by decide +kernel) (by decide +kernel) (by decide +kernel) ?_
  refine le_i2l C (by decide +kernel) ?_
  refine le_ldc2 C (n := 106) (v := (4294967295 : Int64)) (by decide +kernel) (gw (i := 1770) (by decide +kernel) rfl) ?_
  refine le_land C (by decide +kernel) ?_
  refine le_lor C (by decide +kernel) ?_
  refine le_callV C (idx := 108) (M' := mX11_years) (a := 0) (av := [.int (xs (i + 1)), .long _]) (rest := []) (d := 53) (by decide +kernel) ml_L_108 mv_X11_years rfl ⟨rfl, rfl, Nat.le_of_ble_eq_true rfl⟩ ⟨by omega, hb⟩ (kx_years (by omega) hK hX (fun τ f1 k1 => ?_))
  refine le_aload_n C (k := 2) (a := 98) (by decide +kernel) rfl ?_
  refine le_arg C (i := i) 1 (by omega) ⟨rfl, rfl⟩ (by decide +kernel) (by decide +kernel) (by decide +kernel) (by decide +kernel) (by decide +kernel) ?_
  refine le_arg C (i := i) 2 (by omega) ⟨rfl, rfl⟩ (by decide +kernel) (by decide +kernel) (by decide +kernel) (by decide +kernel) (by decide +kernel) ?_
  refine le_i2l C (by decide +kernel) ?_
  refine le_bipush C (n := 32) (v := 32) (by decide +kernel) rfl ?_
  refine le_lshl C (by decide +kernel) ?_
  refine le_arg C (i := i) 3 (by omega) ⟨rfl, rfl⟩ (by decide +kernel) (by decide +kernel) (by decide +kernel) (by decide +kernel) (by decide +kernel) ?_
  refine le_i2l C (by decide +kernel) ?_
  refine le_ldc2 C (n := 106) (v := (4294967295 : Int64)) (by decide +kernel) (gw (i := 1770) (by decide +kernel) rfl) ?_
  refine le_land C (by decide +kernel) ?_
  refine le_lor C (by decide +kernel) ?_
  refine le_callV C (idx := 112) (M' := mX12_years) (a := 98) (av := [.int (xs (i + 1)), .long _]) (rest := [_]) (d := 53) (by decide +kernel) ml_L_112 mv_X12_years rfl ⟨rfl, rfl, Nat.le_of_ble_eq_true rfl⟩ ⟨by omega, hb⟩ (cx_years (hM.kf f1) hX (fun ρ f2 m2 => ?_))
  refine le_icmp_eq C (off := 736) (t := 1607) (by decide +kernel) (by decide) (fun _ => ?_) (fun q => absurd rfl q)
  exact nxt ρ _ (k1.lf f2) m2 (xYears_X hX _ _)
theorem lc_status (C : Lcx G p s m meth c b L xs) (hi : i + 6 ≤ L) (hG : GX G) (hN : N < 800000) (hb : cc ≤ 601024 ∧ ss ≤ 7293034) (hK : KS σ X) (hM : MS σ X) (hX : XI N X) (nxt : ∀ τ Y, KS τ Y → MS τ Y → XI (N + 40) Y → LB p l e s m below meth c b G cc ss 1607 (lv0 i) [] τ) : LB p l e s m below meth c b G cc ss 876 (lv0 i) [] σ := by
  refine le_aload_n C (k := 1) (a := 0) (by decide +kernel) rfl ?_
  refine le_arg C (i := i) 1 (by omega) ⟨rfl, rfl⟩ (by decide +kernel) (by decide +kernel) (by decide +kernel) (by decide +kernel) (by decide +kernel) ?_
  refine le_callV C (idx := 113) (M' := mX11_status) (a := 0) (av := [.int (xs (i + 1))]) (rest := []) (d := 53) (by decide +kernel) ml_L_113 mv_X11_status rfl ⟨rfl, rfl, Nat.le_of_ble_eq_true rfl⟩ ⟨by omega, hb⟩ (kx_status hK (fun τ f1 k1 => ?_))
  refine le_aload_n C (k := 2) (a := 98) (by decide +kernel) rfl ?_
  refine le_arg C (i := i) 1 (by omega) ⟨rfl, rfl⟩ (by decide +kernel) (by decide +kernel) (by decide +kernel) (by decide +kernel) (by decide +kernel) ?_
  refine le_callV C (idx := 116) (M' := mX12_status) (a := 98) (av := [.int (xs (i + 1))]) (rest := [_]) (d := 53) (by decide +kernel) ml_L_116 mv_X12_status rfl ⟨rfl, rfl, Nat.le_of_ble_eq_true rfl⟩ ⟨by omega, hb⟩ (cx_status (hM.kf f1) (fun ρ f2 m2 => ?_))
  refine le_icmp_eq C (off := 711) (t := 1607) (by decide +kernel) (by decide) (fun _ => ?_) (fun q => absurd rfl q)
  exact nxt ρ _ (k1.lf f2) m2 (hX.le (by omega))
theorem lc_undo (C : Lcx G p s m meth c b L xs) (hi : i + 6 ≤ L) (hG : GX G) (hN : N < 800000) (hb : cc ≤ 601024 ∧ ss ≤ 7293034) (hK : KS σ X) (hM : MS σ X) (hX : XI N X) (nxt : ∀ τ Y, KS τ Y → MS τ Y → XI (N + 40) Y → LB p l e s m below meth c b G cc ss 1607 (lv0 i) [] τ) : LB p l e s m below meth c b G cc ss 901 (lv0 i) [] σ := by
  refine le_aload_n C (k := 1) (a := 0) (by decide +kernel) rfl ?_
  refine le_callV C (idx := 117) (M' := mX11_undo) (a := 0) (av := []) (rest := []) (d := 53) (by decide +kernel) ml_L_117 mv_X11_undo rfl ⟨rfl, rfl, Nat.le_of_ble_eq_true rfl⟩ ⟨by omega, hb⟩ (kx_undo (by omega) hK hX (fun τ f1 k1 => ?_))
  refine le_aload_n C (k := 2) (a := 98) (by decide +kernel) rfl ?_
  refine le_callV C (idx := 120) (M' := mX12_undo) (a := 98) (av := []) (rest := [_]) (d := 53) (by decide +kernel) ml_L_120 mv_X12_undo rfl ⟨rfl, rfl, Nat.le_of_ble_eq_true rfl⟩ ⟨by omega, hb⟩ (cx_undo (hM.kf f1) hX (fun ρ f2 m2 => ?_))
  refine le_icmp_eq C (off := 698) (t := 1607) (by decide +kernel) (by decide) (fun _ => ?_) (fun q => absurd rfl q)
  exact nxt ρ _ (k1.lf f2) m2 ((xUndo_X hX).le (by omega))
theorem lc_log (C : Lcx G p s m meth c b L xs) (hi : i + 6 ≤ L) (hG : GX G) (hN : N < 800000) (hb : cc ≤ 601024 ∧ ss ≤ 7293034) (hK : KS σ X) (hM : MS σ X) (hX : XI N X) (nxt : ∀ τ Y, KS τ Y → MS τ Y → XI (N + 40) Y → LB p l e s m below meth c b G cc ss 1607 (lv0 i) [] τ) : LB p l e s m below meth c b G cc ss 914 (lv0 i) [] σ := by
  refine le_aload_n C (k := 1) (a := 0) (by decide +kernel) rfl ?_
  refine le_arg C (i := i) 1 (by omega) ⟨rfl, rfl⟩ (by decide +kernel) (by decide +kernel) (by decide +kernel) (by decide +kernel) (by decide +kernel) ?_
  refine le_arg C (i := i) 2 (by omega) ⟨rfl, rfl⟩ (by decide +kernel) (by decide +kernel) (by decide +kernel) (by decide +kernel) (by decide +kernel) ?_
  refine le_callV C (idx := 121) (M' := mX11_log) (a := 0) (av := [.int (xs (i + 1)), .int (xs (i + 2))]) (rest := []) (d := 53) (by decide +kernel) ml_L_121 mv_X11_log rfl ⟨rfl, rfl, Nat.le_of_ble_eq_true rfl⟩ ⟨by omega, hb⟩ (kx_log (by omega) hK hX (fun τ f1 k1 => ?_))
  refine le_aload_n C (k := 2) (a := 98) (by decide +kernel) rfl ?_
  refine le_arg C (i := i) 1 (by omega) ⟨rfl, rfl⟩ (by decide +kernel) (by decide +kernel) (by decide +kernel) (by decide +kernel) (by decide +kernel) ?_
  refine le_arg C (i := i) 2 (by omega) ⟨rfl, rfl⟩ (by decide +kernel) (by decide +kernel) (by decide +kernel) (by decide +kernel) (by decide +kernel) ?_
  refine le_callV C (idx := 124) (M' := mX12_log) (a := 98) (av := [.int (xs (i + 1)), .int (xs (i + 2))]) (rest := [_]) (d := 53) (by decide +kernel) ml_L_124 mv_X12_log rfl ⟨rfl, rfl, Nat.le_of_ble_eq_true rfl⟩ ⟨by omega, hb⟩ (cx_log (hM.kf f1) hX (fun ρ f2 m2 => ?_))
  refine le_icmp_eq C (off := 661) (t := 1607) (by decide +kernel) (by decide) (fun _ => ?_) (fun q => absurd rfl q)
  exact nxt ρ _ (k1.lf f2) m2 (hX.le (by omega))
theorem lc_way (C : Lcx G p s m meth c b L xs) (hi : i + 6 ≤ L) (hG : GX G) (hN : N < 800000) (hb : cc ≤ 601024 ∧ ss ≤ 7293034) (hK : KS σ X) (hM : MS σ X) (hX : XI N X) (nxt : ∀ τ Y, KS τ Y → MS τ Y → XI (N + 40) Y → LB p l e s m below meth c b G cc ss 1607 (lv0 i) [] τ) : LB p l e s m below meth c b G cc ss 951 (lv0 i) [] σ := by
  refine le_aload_n C (k := 1) (a := 0) (by decide +kernel) rfl ?_
  refine le_arg C (i := i) 1 (by omega) ⟨rfl, rfl⟩ (by decide +kernel) (by decide +kernel) (by decide +kernel) (by decide +kernel) (by decide +kernel) ?_
  refine le_arg C (i := i) 2 (by omega) ⟨rfl, rfl⟩ (by decide +kernel) (by decide +kernel) (by decide +kernel) (by decide +kernel) (by decide +kernel) ?_
  refine le_callV C (idx := 125) (M' := mX11_way) (a := 0) (av := [.int (xs (i + 1)), .int (xs (i + 2))]) (rest := []) (d := 53) (by decide +kernel) ml_L_125 mv_X11_way rfl ⟨rfl, rfl, Nat.le_of_ble_eq_true rfl⟩ ⟨by omega, hb⟩ (kx_way hK hX (fun τ f1 k1 => ?_))
  refine le_aload_n C (k := 2) (a := 98) (by decide +kernel) rfl ?_
  refine le_arg C (i := i) 1 (by omega) ⟨rfl, rfl⟩ (by decide +kernel) (by decide +kernel) (by decide +kernel) (by decide +kernel) (by decide +kernel) ?_
  refine le_arg C (i := i) 2 (by omega) ⟨rfl, rfl⟩ (by decide +kernel) (by decide +kernel) (by decide +kernel) (by decide +kernel) (by decide +kernel) ?_
  refine le_callV C (idx := 128) (M' := mX12_way) (a := 98) (av := [.int (xs (i + 1)), .int (xs (i + 2))]) (rest := [_]) (d := 53) (by decide +kernel) ml_L_128 mv_X12_way rfl ⟨rfl, rfl, Nat.le_of_ble_eq_true rfl⟩ ⟨by omega, hb⟩ (cx_way (hM.kf f1) hX (fun ρ f2 m2 => ?_))
  refine le_icmp_eq C (off := 624) (t := 1607) (by decide +kernel) (by decide) (fun _ => ?_) (fun q => absurd rfl q)
  exact nxt ρ _ (k1.lf f2) m2 (hX.le (by omega))
theorem lc_mass (C : Lcx G p s m meth c b L xs) (hi : i + 6 ≤ L) (hG : GX G) (hN : N < 800000) (hb : cc ≤ 601024 ∧ ss ≤ 7293034) (hK : KS σ X) (hM : MS σ X) (hX : XI N X) (nxt : ∀ τ Y, KS τ Y → MS τ Y → XI (N + 40) Y → LB p l e s m below meth c b G cc ss 1607 (lv0 i) [] τ) : LB p l e s m below meth c b G cc ss 988 (lv0 i) [] σ := by
  refine le_aload_n C (k := 1) (a := 0) (by decide +kernel) rfl ?_
  refine le_arg C (i := i) 1 (by omega) ⟨rfl, rfl⟩ (by decide +kernel) (by decide +kernel) (by decide +kernel) (by decide +kernel) (by decide +kernel) ?_
  refine le_arg C (i := i) 2 (by omega) ⟨rfl, rfl⟩ (by decide +kernel) (by decide +kernel) (by decide +kernel) (by decide +kernel) (by decide +kernel) ?_
  refine le_callV C (idx := 129) (M' := mX11_mass) (a := 0) (av := [.int (xs (i + 1)), .int (xs (i + 2))]) (rest := []) (d := 53) (by decide +kernel) ml_L_129 mv_X11_mass rfl ⟨rfl, rfl, Nat.le_of_ble_eq_true rfl⟩ ⟨by omega, hb⟩ (kx_mass hK hX (fun τ f1 k1 => ?_))
  refine le_aload_n C (k := 2) (a := 98) (by decide +kernel) rfl ?_
  refine le_arg C (i := i) 1 (by omega) ⟨rfl, rfl⟩ (by decide +kernel) (by decide +kernel) (by decide +kernel) (by decide +kernel) (by decide +kernel) ?_
  refine le_arg C (i := i) 2 (by omega) ⟨rfl, rfl⟩ (by decide +kernel) (by decide +kernel) (by decide +kernel) (by decide +kernel) (by decide +kernel) ?_
  refine le_callV C (idx := 132) (M' := mX12_mass) (a := 98) (av := [.int (xs (i + 1)), .int (xs (i + 2))]) (rest := [_]) (d := 53) (by decide +kernel) ml_L_132 mv_X12_mass rfl ⟨rfl, rfl, Nat.le_of_ble_eq_true rfl⟩ ⟨by omega, hb⟩ (cx_mass (hM.kf f1) hX (fun ρ f2 m2 => ?_))
  refine le_icmp_eq C (off := 587) (t := 1607) (by decide +kernel) (by decide) (fun _ => ?_) (fun q => absurd rfl q)
  exact nxt ρ _ (k1.lf f2) m2 (hX.le (by omega))
theorem lc_masses (C : Lcx G p s m meth c b L xs) (hi : i + 6 ≤ L) (hG : GX G) (hN : N < 800000) (hb : cc ≤ 601024 ∧ ss ≤ 7293034) (hK : KS σ X) (hM : MS σ X) (hX : XI N X) (nxt : ∀ τ Y, KS τ Y → MS τ Y → XI (N + 40) Y → LB p l e s m below meth c b G cc ss 1607 (lv0 i) [] τ) : LB p l e s m below meth c b G cc ss 1025 (lv0 i) [] σ := by
  refine le_aload_n C (k := 1) (a := 0) (by decide +kernel) rfl ?_
  refine le_arg C (i := i) 1 (by omega) ⟨rfl, rfl⟩ (by decide +kernel) (by decide +kernel) (by decide +kernel) (by decide +kernel) (by decide +kernel) ?_
  refine le_callV C (idx := 133) (M' := mX11_masses) (a := 0) (av := [.int (xs (i + 1))]) (rest := []) (d := 53) (by decide +kernel) ml_L_133 mv_X11_masses rfl ⟨rfl, rfl, Nat.le_of_ble_eq_true rfl⟩ ⟨by omega, hb⟩ (kx_masses hK hX (fun τ f1 k1 => ?_))
  refine le_aload_n C (k := 2) (a := 98) (by decide +kernel) rfl ?_
  refine le_arg C (i := i) 1 (by omega) ⟨rfl, rfl⟩ (by decide +kernel) (by decide +kernel) (by decide +kernel) (by decide +kernel) (by decide +kernel) ?_
  refine le_callV C (idx := 136) (M' := mX12_masses) (a := 98) (av := [.int (xs (i + 1))]) (rest := [_]) (d := 53) (by decide +kernel) ml_L_136 mv_X12_masses rfl ⟨rfl, rfl, Nat.le_of_ble_eq_true rfl⟩ ⟨by omega, hb⟩ (cx_masses (hM.kf f1) hX (fun ρ f2 m2 => ?_))
  refine le_icmp_eq C (off := 562) (t := 1607) (by decide +kernel) (by decide) (fun _ => ?_) (fun q => absurd rfl q)
  exact nxt ρ _ (k1.lf f2) m2 (hX.le (by omega))
theorem lc_worth (C : Lcx G p s m meth c b L xs) (hi : i + 6 ≤ L) (hG : GX G) (hN : N < 800000) (hb : cc ≤ 601024 ∧ ss ≤ 7293034) (hK : KS σ X) (hM : MS σ X) (hX : XI N X) (nxt : ∀ τ Y, KS τ Y → MS τ Y → XI (N + 40) Y → LB p l e s m below meth c b G cc ss 1607 (lv0 i) [] τ) : LB p l e s m below meth c b G cc ss 1050 (lv0 i) [] σ := by
  refine le_aload_n C (k := 1) (a := 0) (by decide +kernel) rfl ?_
  refine le_callV C (idx := 137) (M' := mX11_worth) (a := 0) (av := []) (rest := []) (d := 53) (by decide +kernel) ml_L_137 mv_X11_worth rfl ⟨rfl, rfl, Nat.le_of_ble_eq_true rfl⟩ ⟨by omega, hb⟩ (kx_worth hK hX (fun τ f1 k1 => ?_))
  refine le_aload_n C (k := 2) (a := 98) (by decide +kernel) rfl ?_
  refine le_callV C (idx := 141) (M' := mX12_worth) (a := 98) (av := []) (rest := [_]) (d := 53) (by decide +kernel) ml_L_141 mv_X12_worth rfl ⟨rfl, rfl, Nat.le_of_ble_eq_true rfl⟩ ⟨by omega, hb⟩ (cx_worth (hM.kf f1) hX (fun ρ f2 m2 => ?_))
  refine le_lcmp C (by decide +kernel) ?_
  refine le_if_eq C (off := 548) (t := 1607) (by decide +kernel) (by decide) (fun _ => ?_) (fun q => absurd lg_same q)
  exact nxt ρ _ (k1.lf f2) m2 (hX.le (by omega))
theorem lc_margin (C : Lcx G p s m meth c b L xs) (hi : i + 6 ≤ L) (hG : GX G) (hN : N < 800000) (hb : cc ≤ 601024 ∧ ss ≤ 7293034) (hK : KS σ X) (hM : MS σ X) (hX : XI N X) (nxt : ∀ τ Y, KS τ Y → MS τ Y → XI (N + 40) Y → LB p l e s m below meth c b G cc ss 1607 (lv0 i) [] τ) : LB p l e s m below meth c b G cc ss 1064 (lv0 i) [] σ := by
  refine le_aload_n C (k := 1) (a := 0) (by decide +kernel) rfl ?_
  refine le_callV C (idx := 142) (M' := mX11_margin) (a := 0) (av := []) (rest := []) (d := 53) (by decide +kernel) ml_L_142 mv_X11_margin rfl ⟨rfl, rfl, Nat.le_of_ble_eq_true rfl⟩ ⟨by omega, hb⟩ (kx_margin hK hX (fun τ f1 k1 => ?_))
  refine le_aload_n C (k := 2) (a := 98) (by decide +kernel) rfl ?_
  refine le_callV C (idx := 145) (M' := mX12_margin) (a := 98) (av := []) (rest := [_]) (d := 53) (by decide +kernel) ml_L_145 mv_X12_margin rfl ⟨rfl, rfl, Nat.le_of_ble_eq_true rfl⟩ ⟨by omega, hb⟩ (cx_margin (hM.kf f1) hX (fun ρ f2 m2 => ?_))
  refine le_lcmp C (by decide +kernel) ?_
  refine le_if_eq C (off := 534) (t := 1607) (by decide +kernel) (by decide) (fun _ => ?_) (fun q => absurd lg_same q)
  exact nxt ρ _ (k1.lf f2) m2 (hX.le (by omega))
theorem lc_till (C : Lcx G p s m meth c b L xs) (hi : i + 6 ≤ L) (hG : GX G) (hN : N < 800000) (hb : cc ≤ 601024 ∧ ss ≤ 7293034) (hK : KS σ X) (hM : MS σ X) (hX : XI N X) (nxt : ∀ τ Y, KS τ Y → MS τ Y → XI (N + 40) Y → LB p l e s m below meth c b G cc ss 1607 (lv0 i) [] τ) : LB p l e s m below meth c b G cc ss 1078 (lv0 i) [] σ := by
  refine le_aload_n C (k := 1) (a := 0) (by decide +kernel) rfl ?_
  refine le_callV C (idx := 146) (M' := mX11_till) (a := 0) (av := []) (rest := []) (d := 53) (by decide +kernel) ml_L_146 mv_X11_till rfl ⟨rfl, rfl, Nat.le_of_ble_eq_true rfl⟩ ⟨by omega, hb⟩ (kx_till hK hX (fun τ f1 k1 => ?_))
  refine le_aload_n C (k := 2) (a := 98) (by decide +kernel) rfl ?_
  refine le_callV C (idx := 149) (M' := mX12_till) (a := 98) (av := []) (rest := [_]) (d := 53) (by decide +kernel) ml_L_149 mv_X12_till rfl ⟨rfl, rfl, Nat.le_of_ble_eq_true rfl⟩ ⟨by omega, hb⟩ (cx_till (hM.kf f1) hX (fun ρ f2 m2 => ?_))
  refine le_icmp_eq C (off := 521) (t := 1607) (by decide +kernel) (by decide) (fun _ => ?_) (fun q => absurd rfl q)
  exact nxt ρ _ (k1.lf f2) m2 (hX.le (by omega))
theorem lc_edge (C : Lcx G p s m meth c b L xs) (hi : i + 6 ≤ L) (hG : GX G) (hN : N < 800000) (hb : cc ≤ 601024 ∧ ss ≤ 7293034) (hK : KS σ X) (hM : MS σ X) (hX : XI N X) (nxt : ∀ τ Y, KS τ Y → MS τ Y → XI (N + 40) Y → LB p l e s m below meth c b G cc ss 1607 (lv0 i) [] τ) : LB p l e s m below meth c b G cc ss 1091 (lv0 i) [] σ := by
  refine le_aload_n C (k := 1) (a := 0) (by decide +kernel) rfl ?_
  refine le_arg C (i := i) 1 (by omega) ⟨rfl, rfl⟩ (by decide +kernel) (by decide +kernel) (by decide +kernel) (by decide +kernel) (by decide +kernel) ?_
  refine le_callV C (idx := 150) (M' := mX11_edge) (a := 0) (av := [.int (xs (i + 1))]) (rest := []) (d := 53) (by decide +kernel) ml_L_150 mv_X11_edge rfl ⟨rfl, rfl, Nat.le_of_ble_eq_true rfl⟩ ⟨by omega, hb⟩ (kx_edge hK hX (fun τ f1 k1 => ?_))
  refine le_aload_n C (k := 2) (a := 98) (by decide +kernel) rfl ?_
  refine le_arg C (i := i) 1 (by omega) ⟨rfl, rfl⟩ (by decide +kernel) (by decide +kernel) (by decide +kernel) (by decide +kernel) (by decide +kernel) ?_
  refine le_callV C (idx := 153) (M' := mX12_edge) (a := 98) (av := [.int (xs (i + 1))]) (rest := [_]) (d := 53) (by decide +kernel) ml_L_153 mv_X12_edge rfl ⟨rfl, rfl, Nat.le_of_ble_eq_true rfl⟩ ⟨by omega, hb⟩ (cx_edge (hM.kf f1) hX (fun ρ f2 m2 => ?_))
  refine le_icmp_eq C (off := 496) (t := 1607) (by decide +kernel) (by decide) (fun _ => ?_) (fun q => absurd rfl q)
  exact nxt ρ _ (k1.lf f2) m2 (hX.le (by omega))
theorem lc_fair (C : Lcx G p s m meth c b L xs) (hi : i + 6 ≤ L) (hG : GX G) (hN : N < 800000) (hb : cc ≤ 601024 ∧ ss ≤ 7293034) (hK : KS σ X) (hM : MS σ X) (hX : XI N X) (nxt : ∀ τ Y, KS τ Y → MS τ Y → XI (N + 40) Y → LB p l e s m below meth c b G cc ss 1607 (lv0 i) [] τ) : LB p l e s m below meth c b G cc ss 1116 (lv0 i) [] σ := by
  refine le_aload_n C (k := 1) (a := 0) (by decide +kernel) rfl ?_
  refine le_callV C (idx := 154) (M' := mX11_fair) (a := 0) (av := []) (rest := []) (d := 53) (by decide +kernel) ml_L_154 mv_X11_fair rfl ⟨rfl, rfl, Nat.le_of_ble_eq_true rfl⟩ ⟨by omega, hb⟩ (kx_fair hK hX (fun τ f1 k1 => ?_))
  refine le_aload_n C (k := 2) (a := 98) (by decide +kernel) rfl ?_
  refine le_callV C (idx := 157) (M' := mX12_fair) (a := 98) (av := []) (rest := [_]) (d := 53) (by decide +kernel) ml_L_157 mv_X12_fair rfl ⟨rfl, rfl, Nat.le_of_ble_eq_true rfl⟩ ⟨by omega, hb⟩ (cx_fair (hM.kf f1) hX (fun ρ f2 m2 => ?_))
  refine le_icmp_eq C (off := 483) (t := 1607) (by decide +kernel) (by decide) (fun _ => ?_) (fun q => absurd rfl q)
  exact nxt ρ _ (k1.lf f2) m2 (hX.le (by omega))
theorem lc_ending (C : Lcx G p s m meth c b L xs) (hi : i + 6 ≤ L) (hG : GX G) (hN : N < 800000) (hb : cc ≤ 601024 ∧ ss ≤ 7293034) (hK : KS σ X) (hM : MS σ X) (hX : XI N X) (nxt : ∀ τ Y, KS τ Y → MS τ Y → XI (N + 40) Y → LB p l e s m below meth c b G cc ss 1607 (lv0 i) [] τ) : LB p l e s m below meth c b G cc ss 1129 (lv0 i) [] σ := by
  refine le_aload_n C (k := 1) (a := 0) (by decide +kernel) rfl ?_
  refine le_arg C (i := i) 1 (by omega) ⟨rfl, rfl⟩ (by decide +kernel) (by decide +kernel) (by decide +kernel) (by decide +kernel) (by decide +kernel) ?_
  refine le_arg C (i := i) 2 (by omega) ⟨rfl, rfl⟩ (by decide +kernel) (by decide +kernel) (by decide +kernel) (by decide +kernel) (by decide +kernel) ?_
  refine le_callV C (idx := 158) (M' := mX11_ending) (a := 0) (av := [.int (xs (i + 1)), .int (xs (i + 2))]) (rest := []) (d := 53) (by decide +kernel) ml_L_158 mv_X11_ending rfl ⟨rfl, rfl, Nat.le_of_ble_eq_true rfl⟩ ⟨by omega, hb⟩ (kx_ending hK hX (fun τ f1 k1 => ?_))
  refine le_aload_n C (k := 2) (a := 98) (by decide +kernel) rfl ?_
  refine le_arg C (i := i) 1 (by omega) ⟨rfl, rfl⟩ (by decide +kernel) (by decide +kernel) (by decide +kernel) (by decide +kernel) (by decide +kernel) ?_
  refine le_arg C (i := i) 2 (by omega) ⟨rfl, rfl⟩ (by decide +kernel) (by decide +kernel) (by decide +kernel) (by decide +kernel) (by decide +kernel) ?_
  refine le_callV C (idx := 161) (M' := mX12_ending) (a := 98) (av := [.int (xs (i + 1)), .int (xs (i + 2))]) (rest := [_]) (d := 53) (by decide +kernel) ml_L_161 mv_X12_ending rfl ⟨rfl, rfl, Nat.le_of_ble_eq_true rfl⟩ ⟨by omega, hb⟩ (cx_ending (hM.kf f1) hX (fun ρ f2 m2 => ?_))
  refine le_icmp_eq C (off := 446) (t := 1607) (by decide +kernel) (by decide) (fun _ => ?_) (fun q => absurd rfl q)
  exact nxt ρ _ (k1.lf f2) m2 (hX.le (by omega))
theorem lc_saved (C : Lcx G p s m meth c b L xs) (hi : i + 6 ≤ L) (hG : GX G) (hN : N < 800000) (hb : cc ≤ 601024 ∧ ss ≤ 7293034) (hK : KS σ X) (hM : MS σ X) (hX : XI N X) (nxt : ∀ τ Y, KS τ Y → MS τ Y → XI (N + 40) Y → LB p l e s m below meth c b G cc ss 1607 (lv0 i) [] τ) : LB p l e s m below meth c b G cc ss 1166 (lv0 i) [] σ := by
  refine le_aload_n C (k := 1) (a := 0) (by decide +kernel) rfl ?_
  refine le_callV C (idx := 162) (M' := mX11_saved) (a := 0) (av := []) (rest := []) (d := 53) (by decide +kernel) ml_L_162 mv_X11_saved rfl ⟨rfl, rfl, Nat.le_of_ble_eq_true rfl⟩ ⟨by omega, hb⟩ (kx_saved hK hX (fun τ f1 k1 => ?_))
  refine le_aload_n C (k := 2) (a := 98) (by decide +kernel) rfl ?_
  refine le_callV C (idx := 165) (M' := mX12_saved) (a := 98) (av := []) (rest := [_]) (d := 53) (by decide +kernel) ml_L_165 mv_X12_saved rfl ⟨rfl, rfl, Nat.le_of_ble_eq_true rfl⟩ ⟨by omega, hb⟩ (cx_saved (hM.kf f1) hX (fun ρ f2 m2 => ?_))
  refine le_lcmp C (by decide +kernel) ?_
  refine le_if_eq C (off := 432) (t := 1607) (by decide +kernel) (by decide) (fun _ => ?_) (fun q => absurd lg_same q)
  exact nxt ρ _ (k1.lf f2) m2 (hX.le (by omega))
theorem lc_sums (C : Lcx G p s m meth c b L xs) (hi : i + 6 ≤ L) (hG : GX G) (hN : N < 800000) (hb : cc ≤ 601024 ∧ ss ≤ 7293034) (hK : KS σ X) (hM : MS σ X) (hX : XI N X) (nxt : ∀ τ Y, KS τ Y → MS τ Y → XI (N + 40) Y → LB p l e s m below meth c b G cc ss 1607 (lv0 i) [] τ) : LB p l e s m below meth c b G cc ss 1180 (lv0 i) [] σ := by
  refine le_aload_n C (k := 1) (a := 0) (by decide +kernel) rfl ?_
  refine le_arg C (i := i) 1 (by omega) ⟨rfl, rfl⟩ (by decide +kernel) (by decide +kernel) (by decide +kernel) (by decide +kernel) (by decide +kernel) ?_
  refine le_callV C (idx := 166) (M' := mX11_sums) (a := 0) (av := [.int (xs (i + 1))]) (rest := []) (d := 53) (by decide +kernel) ml_L_166 mv_X11_sums rfl ⟨rfl, rfl, Nat.le_of_ble_eq_true rfl⟩ ⟨by omega, hb⟩ (kx_sums hK hX (fun τ f1 k1 => ?_))
  refine le_aload_n C (k := 2) (a := 98) (by decide +kernel) rfl ?_
  refine le_arg C (i := i) 1 (by omega) ⟨rfl, rfl⟩ (by decide +kernel) (by decide +kernel) (by decide +kernel) (by decide +kernel) (by decide +kernel) ?_
  refine le_callV C (idx := 169) (M' := mX12_sums) (a := 98) (av := [.int (xs (i + 1))]) (rest := [_]) (d := 53) (by decide +kernel) ml_L_169 mv_X12_sums rfl ⟨rfl, rfl, Nat.le_of_ble_eq_true rfl⟩ ⟨by omega, hb⟩ (cx_sums (hM.kf f1) hX (fun ρ f2 m2 => ?_))
  refine le_icmp_eq C (off := 407) (t := 1607) (by decide +kernel) (by decide) (fun _ => ?_) (fun q => absurd rfl q)
  exact nxt ρ _ (k1.lf f2) m2 (hX.le (by omega))
theorem lc_deed (C : Lcx G p s m meth c b L xs) (hi : i + 6 ≤ L) (hG : GX G) (hN : N < 800000) (hb : cc ≤ 601024 ∧ ss ≤ 7293034) (hK : KS σ X) (hM : MS σ X) (hX : XI N X) (nxt : ∀ τ Y, KS τ Y → MS τ Y → XI (N + 40) Y → LB p l e s m below meth c b G cc ss 1607 (lv0 i) [] τ) : LB p l e s m below meth c b G cc ss 1205 (lv0 i) [] σ := by
  refine le_aload_n C (k := 1) (a := 0) (by decide +kernel) rfl ?_
  refine le_arg C (i := i) 1 (by omega) ⟨rfl, rfl⟩ (by decide +kernel) (by decide +kernel) (by decide +kernel) (by decide +kernel) (by decide +kernel) ?_
  refine le_arg C (i := i) 2 (by omega) ⟨rfl, rfl⟩ (by decide +kernel) (by decide +kernel) (by decide +kernel) (by decide +kernel) (by decide +kernel) ?_
  refine le_callV C (idx := 170) (M' := mX11_deed) (a := 0) (av := [.int (xs (i + 1)), .int (xs (i + 2))]) (rest := []) (d := 53) (by decide +kernel) ml_L_170 mv_X11_deed rfl ⟨rfl, rfl, Nat.le_of_ble_eq_true rfl⟩ ⟨by omega, hb⟩ (kx_deed hK hX (fun τ f1 k1 => ?_))
  refine le_aload_n C (k := 2) (a := 98) (by decide +kernel) rfl ?_
  refine le_arg C (i := i) 1 (by omega) ⟨rfl, rfl⟩ (by decide +kernel) (by decide +kernel) (by decide +kernel) (by decide +kernel) (by decide +kernel) ?_
  refine le_arg C (i := i) 2 (by omega) ⟨rfl, rfl⟩ (by decide +kernel) (by decide +kernel) (by decide +kernel) (by decide +kernel) (by decide +kernel) ?_
  refine le_callV C (idx := 173) (M' := mX12_deed) (a := 98) (av := [.int (xs (i + 1)), .int (xs (i + 2))]) (rest := [_]) (d := 53) (by decide +kernel) ml_L_173 mv_X12_deed rfl ⟨rfl, rfl, Nat.le_of_ble_eq_true rfl⟩ ⟨by omega, hb⟩ (cx_deed (hM.kf f1) hX (fun ρ f2 m2 => ?_))
  refine le_icmp_eq C (off := 370) (t := 1607) (by decide +kernel) (by decide) (fun _ => ?_) (fun q => absurd rfl q)
  exact nxt ρ _ (k1.lf f2) m2 (hX.le (by omega))
theorem lc_byPolicy (C : Lcx G p s m meth c b L xs) (hi : i + 6 ≤ L) (hG : GX G) (hN : N < 800000) (hb : cc ≤ 601024 ∧ ss ≤ 7293034) (hK : KS σ X) (hM : MS σ X) (hX : XI N X) (nxt : ∀ τ Y, KS τ Y → MS τ Y → XI (N + 40) Y → LB p l e s m below meth c b G cc ss 1607 (lv0 i) [] τ) : LB p l e s m below meth c b G cc ss 1242 (lv0 i) [] σ := by
  refine le_aload_n C (k := 1) (a := 0) (by decide +kernel) rfl ?_
  refine le_arg C (i := i) 1 (by omega) ⟨rfl, rfl⟩ (by decide +kernel) (by decide +kernel) (by decide +kernel) (by decide +kernel) (by decide +kernel) ?_
  refine le_arg C (i := i) 2 (by omega) ⟨rfl, rfl⟩ (by decide +kernel) (by decide +kernel) (by decide +kernel) (by decide +kernel) (by decide +kernel) ?_
  refine le_callV C (idx := 174) (M' := mX11_byPolicy) (a := 0) (av := [.int (xs (i + 1)), .int (xs (i + 2))]) (rest := []) (d := 53) (by decide +kernel) ml_L_174 mv_X11_byPolicy rfl ⟨rfl, rfl, Nat.le_of_ble_eq_true rfl⟩ ⟨by omega, hb⟩ (kx_byPolicy hK hX (fun τ f1 k1 => ?_))
  refine le_aload_n C (k := 2) (a := 98) (by decide +kernel) rfl ?_
  refine le_arg C (i := i) 1 (by omega) ⟨rfl, rfl⟩ (by decide +kernel) (by decide +kernel) (by decide +kernel) (by decide +kernel) (by decide +kernel) ?_
  refine le_arg C (i := i) 2 (by omega) ⟨rfl, rfl⟩ (by decide +kernel) (by decide +kernel) (by decide +kernel) (by decide +kernel) (by decide +kernel) ?_
  refine le_callV C (idx := 178) (M' := mX12_byPolicy) (a := 98) (av := [.int (xs (i + 1)), .int (xs (i + 2))]) (rest := [_]) (d := 53) (by decide +kernel) ml_L_178 mv_X12_byPolicy rfl ⟨rfl, rfl, Nat.le_of_ble_eq_true rfl⟩ ⟨by omega, hb⟩ (cx_byPolicy (hM.kf f1) hX (fun ρ f2 m2 => ?_))
  refine le_lcmp C (by decide +kernel) ?_
  refine le_if_eq C (off := 332) (t := 1607) (by decide +kernel) (by decide) (fun _ => ?_) (fun q => absurd lg_same q)
  exact nxt ρ _ (k1.lf f2) m2 (hX.le (by omega))
theorem lc_regret (C : Lcx G p s m meth c b L xs) (hi : i + 6 ≤ L) (hG : GX G) (hN : N < 800000) (hb : cc ≤ 601024 ∧ ss ≤ 7293034) (hK : KS σ X) (hM : MS σ X) (hX : XI N X) (nxt : ∀ τ Y, KS τ Y → MS τ Y → XI (N + 40) Y → LB p l e s m below meth c b G cc ss 1607 (lv0 i) [] τ) : LB p l e s m below meth c b G cc ss 1280 (lv0 i) [] σ := by
  refine le_aload_n C (k := 1) (a := 0) (by decide +kernel) rfl ?_
  refine le_callV C (idx := 179) (M' := mX11_regret) (a := 0) (av := []) (rest := []) (d := 53) (by decide +kernel) ml_L_179 mv_X11_regret rfl ⟨rfl, rfl, Nat.le_of_ble_eq_true rfl⟩ ⟨by omega, hb⟩ (kx_regret hK hX (fun τ f1 k1 => ?_))
  refine le_aload_n C (k := 2) (a := 98) (by decide +kernel) rfl ?_
  refine le_callV C (idx := 182) (M' := mX12_regret) (a := 98) (av := []) (rest := [_]) (d := 53) (by decide +kernel) ml_L_182 mv_X12_regret rfl ⟨rfl, rfl, Nat.le_of_ble_eq_true rfl⟩ ⟨by omega, hb⟩ (cx_regret (hM.kf f1) hX (fun ρ f2 m2 => ?_))
  refine le_lcmp C (by decide +kernel) ?_
  refine le_if_eq C (off := 318) (t := 1607) (by decide +kernel) (by decide) (fun _ => ?_) (fun q => absurd lg_same q)
  exact nxt ρ _ (k1.lf f2) m2 (hX.le (by omega))
theorem lc_strays (C : Lcx G p s m meth c b L xs) (hi : i + 6 ≤ L) (hG : GX G) (hN : N < 800000) (hb : cc ≤ 601024 ∧ ss ≤ 7293034) (hK : KS σ X) (hM : MS σ X) (hX : XI N X) (nxt : ∀ τ Y, KS τ Y → MS τ Y → XI (N + 40) Y → LB p l e s m below meth c b G cc ss 1607 (lv0 i) [] τ) : LB p l e s m below meth c b G cc ss 1294 (lv0 i) [] σ := by
  refine le_aload_n C (k := 1) (a := 0) (by decide +kernel) rfl ?_
  refine le_arg C (i := i) 1 (by omega) ⟨rfl, rfl⟩ (by decide +kernel) (by decide +kernel) (by decide +kernel) (by decide +kernel) (by decide +kernel) ?_
  refine le_callV C (idx := 183) (M' := mX11_strays) (a := 0) (av := [.int (xs (i + 1))]) (rest := []) (d := 53) (by decide +kernel) ml_L_183 mv_X11_strays rfl ⟨rfl, rfl, Nat.le_of_ble_eq_true rfl⟩ ⟨by omega, hb⟩ (kx_strays hK hX (fun τ f1 k1 => ?_))
  refine le_aload_n C (k := 2) (a := 98) (by decide +kernel) rfl ?_
  refine le_arg C (i := i) 1 (by omega) ⟨rfl, rfl⟩ (by decide +kernel) (by decide +kernel) (by decide +kernel) (by decide +kernel) (by decide +kernel) ?_
  refine le_callV C (idx := 186) (M' := mX12_strays) (a := 98) (av := [.int (xs (i + 1))]) (rest := [_]) (d := 53) (by decide +kernel) ml_L_186 mv_X12_strays rfl ⟨rfl, rfl, Nat.le_of_ble_eq_true rfl⟩ ⟨by omega, hb⟩ (cx_strays (hM.kf f1) hX (fun ρ f2 m2 => ?_))
  refine le_icmp_eq C (off := 293) (t := 1607) (by decide +kernel) (by decide) (fun _ => ?_) (fun q => absurd rfl q)
  exact nxt ρ _ (k1.lf f2) m2 (hX.le (by omega))
theorem lc_mended (C : Lcx G p s m meth c b L xs) (hi : i + 6 ≤ L) (hG : GX G) (hN : N < 800000) (hb : cc ≤ 601024 ∧ ss ≤ 7293034) (hK : KS σ X) (hM : MS σ X) (hX : XI N X) (nxt : ∀ τ Y, KS τ Y → MS τ Y → XI (N + 40) Y → LB p l e s m below meth c b G cc ss 1607 (lv0 i) [] τ) : LB p l e s m below meth c b G cc ss 1319 (lv0 i) [] σ := by
  refine le_aload_n C (k := 1) (a := 0) (by decide +kernel) rfl ?_
  refine le_arg C (i := i) 1 (by omega) ⟨rfl, rfl⟩ (by decide +kernel) (by decide +kernel) (by decide +kernel) (by decide +kernel) (by decide +kernel) ?_
  refine le_arg C (i := i) 2 (by omega) ⟨rfl, rfl⟩ (by decide +kernel) (by decide +kernel) (by decide +kernel) (by decide +kernel) (by decide +kernel) ?_
  refine le_callV C (idx := 187) (M' := mX11_mended) (a := 0) (av := [.int (xs (i + 1)), .int (xs (i + 2))]) (rest := []) (d := 53) (by decide +kernel) ml_L_187 mv_X11_mended rfl ⟨rfl, rfl, Nat.le_of_ble_eq_true rfl⟩ ⟨by omega, hb⟩ (kx_mended hK hX (fun τ f1 k1 => ?_))
  refine le_aload_n C (k := 2) (a := 98) (by decide +kernel) rfl ?_
  refine le_arg C (i := i) 1 (by omega) ⟨rfl, rfl⟩ (by decide +kernel) (by decide +kernel) (by decide +kernel) (by decide +kernel) (by decide +kernel) ?_
  refine le_arg C (i := i) 2 (by omega) ⟨rfl, rfl⟩ (by decide +kernel) (by decide +kernel) (by decide +kernel) (by decide +kernel) (by decide +kernel) ?_
  refine le_callV C (idx := 190) (M' := mX12_mended) (a := 98) (av := [.int (xs (i + 1)), .int (xs (i + 2))]) (rest := [_]) (d := 53) (by decide +kernel) ml_L_190 mv_X12_mended rfl ⟨rfl, rfl, Nat.le_of_ble_eq_true rfl⟩ ⟨by omega, hb⟩ (cx_mended (hM.kf f1) hX (fun ρ f2 m2 => ?_))
  refine le_icmp_eq C (off := 256) (t := 1607) (by decide +kernel) (by decide) (fun _ => ?_) (fun q => absurd rfl q)
  exact nxt ρ _ (k1.lf f2) m2 (hX.le (by omega))
theorem lc_rounds (C : Lcx G p s m meth c b L xs) (hi : i + 6 ≤ L) (hG : GX G) (hN : N < 800000) (hb : cc ≤ 601024 ∧ ss ≤ 7293034) (hK : KS σ X) (hM : MS σ X) (hX : XI N X) (nxt : ∀ τ Y, KS τ Y → MS τ Y → XI (N + 40) Y → LB p l e s m below meth c b G cc ss 1607 (lv0 i) [] τ) : LB p l e s m below meth c b G cc ss 1356 (lv0 i) [] σ := by
  refine le_aload_n C (k := 1) (a := 0) (by decide +kernel) rfl ?_
  refine le_callV C (idx := 191) (M' := mX11_rounds) (a := 0) (av := []) (rest := []) (d := 53) (by decide +kernel) ml_L_191 mv_X11_rounds rfl ⟨rfl, rfl, Nat.le_of_ble_eq_true rfl⟩ ⟨by omega, hb⟩ (kx_rounds hK hX (fun τ f1 k1 => ?_))
  refine le_aload_n C (k := 2) (a := 98) (by decide +kernel) rfl ?_
  refine le_callV C (idx := 194) (M' := mX12_rounds) (a := 98) (av := []) (rest := [_]) (d := 53) (by decide +kernel) ml_L_194 mv_X12_rounds rfl ⟨rfl, rfl, Nat.le_of_ble_eq_true rfl⟩ ⟨by omega, hb⟩ (cx_rounds (hM.kf f1) hX (fun ρ f2 m2 => ?_))
  refine le_icmp_eq C (off := 243) (t := 1607) (by decide +kernel) (by decide) (fun _ => ?_) (fun q => absurd rfl q)
  exact nxt ρ _ (k1.lf f2) m2 (hX.le (by omega))
theorem lc_shifted (C : Lcx G p s m meth c b L xs) (hi : i + 6 ≤ L) (hG : GX G) (hN : N < 800000) (hb : cc ≤ 601024 ∧ ss ≤ 7293034) (hK : KS σ X) (hM : MS σ X) (hX : XI N X) (nxt : ∀ τ Y, KS τ Y → MS τ Y → XI (N + 40) Y → LB p l e s m below meth c b G cc ss 1607 (lv0 i) [] τ) : LB p l e s m below meth c b G cc ss 1369 (lv0 i) [] σ := by
  refine le_aload_n C (k := 1) (a := 0) (by decide +kernel) rfl ?_
  refine le_arg C (i := i) 1 (by omega) ⟨rfl, rfl⟩ (by decide +kernel) (by decide +kernel) (by decide +kernel) (by decide +kernel) (by decide +kernel) ?_
  refine le_callV C (idx := 195) (M' := mX11_shifted) (a := 0) (av := [.int (xs (i + 1))]) (rest := []) (d := 53) (by decide +kernel) ml_L_195 mv_X11_shifted rfl ⟨rfl, rfl, Nat.le_of_ble_eq_true rfl⟩ ⟨by omega, hb⟩ (kx_shifted hK hX (fun τ f1 k1 => ?_))
  refine le_aload_n C (k := 2) (a := 98) (by decide +kernel) rfl ?_
  refine le_arg C (i := i) 1 (by omega) ⟨rfl, rfl⟩ (by decide +kernel) (by decide +kernel) (by decide +kernel) (by decide +kernel) (by decide +kernel) ?_
  refine le_callV C (idx := 199) (M' := mX12_shifted) (a := 98) (av := [.int (xs (i + 1))]) (rest := [_]) (d := 53) (by decide +kernel) ml_L_199 mv_X12_shifted rfl ⟨rfl, rfl, Nat.le_of_ble_eq_true rfl⟩ ⟨by omega, hb⟩ (cx_shifted (hM.kf f1) hX (fun ρ f2 m2 => ?_))
  refine le_lcmp C (by decide +kernel) ?_
  refine le_if_eq C (off := 217) (t := 1607) (by decide +kernel) (by decide) (fun _ => ?_) (fun q => absurd lg_same q)
  exact nxt ρ _ (k1.lf f2) m2 (hX.le (by omega))
theorem lc_spread (C : Lcx G p s m meth c b L xs) (hi : i + 6 ≤ L) (hG : GX G) (hN : N < 800000) (hb : cc ≤ 601024 ∧ ss ≤ 7293034) (hK : KS σ X) (hM : MS σ X) (hX : XI N X) (nxt : ∀ τ Y, KS τ Y → MS τ Y → XI (N + 40) Y → LB p l e s m below meth c b G cc ss 1607 (lv0 i) [] τ) : LB p l e s m below meth c b G cc ss 1395 (lv0 i) [] σ := by
  obtain ⟨M, hMM⟩ : ∃ M : Nat, M = 163840 := ⟨_, rfl⟩
  refine le_aload_n C (k := 1) (a := 0) (by decide +kernel) rfl ?_
  refine le_arg C (i := i) 1 (by omega) ⟨rfl, rfl⟩ (by decide +kernel) (by decide +kernel) (by decide +kernel) (by decide +kernel) (by decide +kernel) ?_
  refine le_callV C (idx := 200) (M' := mX11_spread) (a := 0) (av := [.int (xs (i + 1))]) (rest := []) (d := 53) (by decide +kernel) ml_L_200 mv_X11_spread rfl ⟨rfl, rfl, Nat.le_of_ble_eq_true rfl⟩ ⟨by omega, hb⟩ (kx_spread hMM hK hX (fun τ f1 k1 => ?_))
  refine le_aload_n C (k := 2) (a := 98) (by decide +kernel) rfl ?_
  refine le_arg C (i := i) 1 (by omega) ⟨rfl, rfl⟩ (by decide +kernel) (by decide +kernel) (by decide +kernel) (by decide +kernel) (by decide +kernel) ?_
  refine le_callV C (idx := 203) (M' := mX12_spread) (a := 98) (av := [.int (xs (i + 1))]) (rest := [_]) (d := 53) (by decide +kernel) ml_L_203 mv_X12_spread rfl ⟨rfl, rfl, Nat.le_of_ble_eq_true rfl⟩ ⟨by omega, hb⟩ (cx_spread hMM (hM.kf f1) hX (fun ρ f2 m2 => ?_))
  refine le_icmp_eq C (off := 192) (t := 1607) (by decide +kernel) (by decide) (fun _ => ?_) (fun q => absurd rfl q)
  exact nxt ρ _ (k1.lf f2) m2 (hX.le (by omega))
theorem lc_step (C : Lcx G p s m meth c b L xs) (hi : i + 6 ≤ L) (hG : GX G) (hN : N < 800000) (hb : cc ≤ 601024 ∧ ss ≤ 7293034) (hK : KS σ X) (hM : MS σ X) (hX : XI N X) (nxt : ∀ τ Y, KS τ Y → MS τ Y → XI (N + 40) Y → LB p l e s m below meth c b G cc ss 1607 (lv0 i) [] τ) : LB p l e s m below meth c b G cc ss 1420 (lv0 i) [] σ := by
  refine le_aload_n C (k := 1) (a := 0) (by decide +kernel) rfl ?_
  refine le_arg C (i := i) 1 (by omega) ⟨rfl, rfl⟩ (by decide +kernel) (by decide +kernel) (by decide +kernel) (by decide +kernel) (by decide +kernel) ?_
  refine le_arg C (i := i) 2 (by omega) ⟨rfl, rfl⟩ (by decide +kernel) (by decide +kernel) (by decide +kernel) (by decide +kernel) (by decide +kernel) ?_
  refine le_arg C (i := i) 3 (by omega) ⟨rfl, rfl⟩ (by decide +kernel) (by decide +kernel) (by decide +kernel) (by decide +kernel) (by decide +kernel) ?_
  refine le_callV C (idx := 204) (M' := mX11_step) (a := 0) (av := [.int (xs (i + 1)), .int (xs (i + 2)), .int (xs (i + 3))]) (rest := []) (d := 53) (by decide +kernel) ml_L_204 mv_X11_step rfl ⟨rfl, rfl, Nat.le_of_ble_eq_true rfl⟩ ⟨by omega, hb⟩ (kx_step hK (fun τ f1 k1 => ?_))
  refine le_aload_n C (k := 2) (a := 98) (by decide +kernel) rfl ?_
  refine le_arg C (i := i) 1 (by omega) ⟨rfl, rfl⟩ (by decide +kernel) (by decide +kernel) (by decide +kernel) (by decide +kernel) (by decide +kernel) ?_
  refine le_arg C (i := i) 2 (by omega) ⟨rfl, rfl⟩ (by decide +kernel) (by decide +kernel) (by decide +kernel) (by decide +kernel) (by decide +kernel) ?_
  refine le_arg C (i := i) 3 (by omega) ⟨rfl, rfl⟩ (by decide +kernel) (by decide +kernel) (by decide +kernel) (by decide +kernel) (by decide +kernel) ?_
  refine le_callV C (idx := 207) (M' := mX12_step) (a := 98) (av := [.int (xs (i + 1)), .int (xs (i + 2)), .int (xs (i + 3))]) (rest := [_]) (d := 53) (by decide +kernel) ml_L_207 mv_X12_step rfl ⟨rfl, rfl, Nat.le_of_ble_eq_true rfl⟩ ⟨by omega, hb⟩ (cx_step (hM.kf f1) (fun ρ f2 m2 => ?_))
  refine le_icmp_eq C (off := 143) (t := 1607) (by decide +kernel) (by decide) (fun _ => ?_) (fun q => absurd rfl q)
  exact nxt ρ _ (k1.lf f2) m2 (hX.le (by omega))
theorem lc_run (C : Lcx G p s m meth c b L xs) (hi : i + 6 ≤ L) (hG : GX G) (hN : N < 800000) (hb : cc ≤ 601024 ∧ ss ≤ 7293034) (hK : KS σ X) (hM : MS σ X) (hX : XI N X) (nxt : ∀ τ Y, KS τ Y → MS τ Y → XI (N + 40) Y → LB p l e s m below meth c b G cc ss 1607 (lv0 i) [] τ) : LB p l e s m below meth c b G cc ss 1469 (lv0 i) [] σ := by
  refine le_aload_n C (k := 1) (a := 0) (by decide +kernel) rfl ?_
  refine le_arg C (i := i) 1 (by omega) ⟨rfl, rfl⟩ (by decide +kernel) (by decide +kernel) (by decide +kernel) (by decide +kernel) (by decide +kernel) ?_
  refine le_arg C (i := i) 2 (by omega) ⟨rfl, rfl⟩ (by decide +kernel) (by decide +kernel) (by decide +kernel) (by decide +kernel) (by decide +kernel) ?_
  refine le_callV C (idx := 208) (M' := mX11_run) (a := 0) (av := [.int (xs (i + 1)), .int (xs (i + 2))]) (rest := []) (d := 53) (by decide +kernel) ml_L_208 mv_X11_run rfl ⟨rfl, rfl, Nat.le_of_ble_eq_true rfl⟩ ⟨by omega, hb⟩ (kx_run hK hX (fun τ f1 k1 => ?_))
  refine le_aload_n C (k := 2) (a := 98) (by decide +kernel) rfl ?_
  refine le_arg C (i := i) 1 (by omega) ⟨rfl, rfl⟩ (by decide +kernel) (by decide +kernel) (by decide +kernel) (by decide +kernel) (by decide +kernel) ?_
  refine le_arg C (i := i) 2 (by omega) ⟨rfl, rfl⟩ (by decide +kernel) (by decide +kernel) (by decide +kernel) (by decide +kernel) (by decide +kernel) ?_
  refine le_callV C (idx := 211) (M' := mX12_run) (a := 98) (av := [.int (xs (i + 1)), .int (xs (i + 2))]) (rest := [_]) (d := 53) (by decide +kernel) ml_L_211 mv_X12_run rfl ⟨rfl, rfl, Nat.le_of_ble_eq_true rfl⟩ ⟨by omega, hb⟩ (cx_run (hM.kf f1) hX (fun ρ f2 m2 => ?_))
  refine le_icmp_eq C (off := 106) (t := 1607) (by decide +kernel) (by decide) (fun _ => ?_) (fun q => absurd rfl q)
  exact nxt ρ _ (k1.lf f2) m2 (hX.le (by omega))
theorem lc_perform (C : Lcx G p s m meth c b L xs) (hi : i + 6 ≤ L) (hG : GX G) (hN : N < 800000) (hb : cc ≤ 601024 ∧ ss ≤ 7293034) (hK : KS σ X) (hM : MS σ X) (hX : XI N X) (nxt : ∀ τ Y, KS τ Y → MS τ Y → XI (N + 40) Y → LB p l e s m below meth c b G cc ss 1607 (lv0 i) [] τ) : LB p l e s m below meth c b G cc ss 1506 (lv0 i) [] σ := by
  refine le_aload_n C (k := 1) (a := 0) (by decide +kernel) rfl ?_
  refine le_arg C (i := i) 1 (by omega) ⟨rfl, rfl⟩ (by decide +kernel) (by decide +kernel) (by decide +kernel) (by decide +kernel) (by decide +kernel) ?_
  refine le_callV C (idx := 212) (M' := mX11_perform) (a := 0) (av := [.int (xs (i + 1))]) (rest := []) (d := 53) (by decide +kernel) ml_L_212 mv_X11_perform rfl ⟨rfl, rfl, Nat.le_of_ble_eq_true rfl⟩ ⟨by omega, hb⟩ (kx_perform (by omega) hK hX (fun τ f1 k1 => ?_))
  refine le_aload_n C (k := 2) (a := 98) (by decide +kernel) rfl ?_
  refine le_arg C (i := i) 1 (by omega) ⟨rfl, rfl⟩ (by decide +kernel) (by decide +kernel) (by decide +kernel) (by decide +kernel) (by decide +kernel) ?_
  refine le_callV C (idx := 215) (M' := mX12_perform) (a := 98) (av := [.int (xs (i + 1))]) (rest := [_]) (d := 53) (by decide +kernel) ml_L_215 mv_X12_perform rfl ⟨rfl, rfl, Nat.le_of_ble_eq_true rfl⟩ ⟨by omega, hb⟩ (cx_perform (hM.kf f1) hX (fun ρ f2 m2 => ?_))
  refine le_icmp_eq C (off := 81) (t := 1607) (by decide +kernel) (by decide) (fun _ => ?_) (fun q => absurd rfl q)
  exact nxt ρ _ (k1.lf f2) m2 (xPer_X hX hM.2.1.1 _)
theorem lc_most (C : Lcx G p s m meth c b L xs) (hi : i + 6 ≤ L) (hG : GX G) (hN : N < 800000) (hb : cc ≤ 601024 ∧ ss ≤ 7293034) (hK : KS σ X) (hM : MS σ X) (hX : XI N X) (nxt : ∀ τ Y, KS τ Y → MS τ Y → XI (N + 40) Y → LB p l e s m below meth c b G cc ss 1607 (lv0 i) [] τ) : LB p l e s m below meth c b G cc ss 1531 (lv0 i) [] σ := by
  refine le_aload_n C (k := 1) (a := 0) (by decide +kernel) rfl ?_
  refine le_arg C (i := i) 1 (by omega) ⟨rfl, rfl⟩ (by decide +kernel) (by decide +kernel) (by decide +kernel) (by decide +kernel) (by decide +kernel) ?_
  refine le_callV C (idx := 216) (M' := mX11_most) (a := 0) (av := [.int (xs (i + 1))]) (rest := []) (d := 53) (by decide +kernel) ml_L_216 mv_X11_most rfl ⟨rfl, rfl, Nat.le_of_ble_eq_true rfl⟩ ⟨by omega, hb⟩ (kx_most hK hX (fun τ f1 k1 => ?_))
  refine le_aload_n C (k := 2) (a := 98) (by decide +kernel) rfl ?_
  refine le_arg C (i := i) 1 (by omega) ⟨rfl, rfl⟩ (by decide +kernel) (by decide +kernel) (by decide +kernel) (by decide +kernel) (by decide +kernel) ?_
  refine le_callV C (idx := 219) (M' := mX12_most) (a := 98) (av := [.int (xs (i + 1))]) (rest := [_]) (d := 53) (by decide +kernel) ml_L_219 mv_X12_most rfl ⟨rfl, rfl, Nat.le_of_ble_eq_true rfl⟩ ⟨by omega, hb⟩ (cx_most (hM.kf f1) hX (fun ρ f2 m2 => ?_))
  refine le_icmp_eq C (off := 56) (t := 1607) (by decide +kernel) (by decide) (fun _ => ?_) (fun q => absurd rfl q)
  exact nxt ρ _ (k1.lf f2) m2 (hX.le (by omega))
theorem lc_image (C : Lcx G p s m meth c b L xs) (hi : i + 6 ≤ L) (hG : GX G) (hN : N < 800000) (hb : cc ≤ 601024 ∧ ss ≤ 7293034) (hK : KS σ X) (hM : MS σ X) (hX : XI N X) (nxt : ∀ τ Y, KS τ Y → MS τ Y → XI (N + 40) Y → LB p l e s m below meth c b G cc ss 1607 (lv0 i) [] τ) : LB p l e s m below meth c b G cc ss 1556 (lv0 i) [] σ := by
  refine le_aload_n C (k := 1) (a := 0) (by decide +kernel) rfl ?_
  refine le_callV C (idx := 220) (M' := mX11_image) (a := 0) (av := []) (rest := []) (d := 53) (by decide +kernel) ml_L_220 mv_X11_image rfl ⟨rfl, rfl, Nat.le_of_ble_eq_true rfl⟩ ⟨by omega, hb⟩ (kx_image hK hX (fun τ f1 k1 => ?_))
  refine le_aload_n C (k := 2) (a := 98) (by decide +kernel) rfl ?_
  refine le_callV C (idx := 223) (M' := mX12_image) (a := 98) (av := []) (rest := [_]) (d := 53) (by decide +kernel) ml_L_223 mv_X12_image rfl ⟨rfl, rfl, Nat.le_of_ble_eq_true rfl⟩ ⟨by omega, hb⟩ (cx_image (hM.kf f1) hX (fun ρ f2 m2 => ?_))
  refine le_icmp_eq C (off := 43) (t := 1607) (by decide +kernel) (by decide) (fun _ => ?_) (fun q => absurd rfl q)
  exact nxt ρ _ (k1.lf f2) m2 ((xImg_X hX).le (by omega))
theorem lc_back (C : Lcx G p s m meth c b L xs) (hi : i + 6 ≤ L) (hG : GX G) (hN : N < 800000) (hb : cc ≤ 601024 ∧ ss ≤ 7293034) (hK : KS σ X) (hM : MS σ X) (hX : XI N X) (nxt : ∀ τ Y, KS τ Y → MS τ Y → XI (N + 40) Y → LB p l e s m below meth c b G cc ss 1607 (lv0 i) [] τ) : LB p l e s m below meth c b G cc ss 1569 (lv0 i) [] σ := by
  refine le_aload_n C (k := 1) (a := 0) (by decide +kernel) rfl ?_
  refine le_callV C (idx := 224) (M' := mX11_back) (a := 0) (av := []) (rest := []) (d := 53) (by decide +kernel) ml_L_224 mv_X11_back rfl ⟨rfl, rfl, Nat.le_of_ble_eq_true rfl⟩ ⟨by omega, hb⟩ (kx_back hK hX (fun τ f1 k1 => ?_))
  refine le_aload_n C (k := 2) (a := 98) (by decide +kernel) rfl ?_
  refine le_callV C (idx := 227) (M' := mX12_back) (a := 98) (av := []) (rest := [_]) (d := 53) (by decide +kernel) ml_L_227 mv_X12_back rfl ⟨rfl, rfl, Nat.le_of_ble_eq_true rfl⟩ ⟨by omega, hb⟩ (cx_back (hM.kf f1) hX (fun ρ f2 m2 => ?_))
  refine le_icmp_eq C (off := 30) (t := 1607) (by decide +kernel) (by decide) (fun _ => ?_) (fun q => absurd rfl q)
  exact nxt ρ _ (k1.lf f2) m2 ((xBack_X hX).le (by omega))
theorem lc_count (C : Lcx G p s m meth c b L xs) (hi : i + 6 ≤ L) (hG : GX G) (hN : N < 800000) (hb : cc ≤ 601024 ∧ ss ≤ 7293034) (hK : KS σ X) (hM : MS σ X) (hX : XI N X) (nxt : ∀ τ Y, KS τ Y → MS τ Y → XI (N + 40) Y → LB p l e s m below meth c b G cc ss 1607 (lv0 i) [] τ) : LB p l e s m below meth c b G cc ss 1582 (lv0 i) [] σ := by
  refine le_aload_n C (k := 1) (a := 0) (by decide +kernel) rfl ?_
  refine le_arg C (i := i) 1 (by omega) ⟨rfl, rfl⟩ (by decide +kernel) (by decide +kernel) (by decide +kernel) (by decide +kernel) (by decide +kernel) ?_
  refine le_callV C (idx := 228) (M' := mX11_count) (a := 0) (av := [.int (xs (i + 1))]) (rest := []) (d := 53) (by decide +kernel) ml_L_228 mv_X11_count rfl ⟨rfl, rfl, Nat.le_of_ble_eq_true rfl⟩ ⟨by omega, hb⟩ (kx_count (by omega) hK hX (fun τ f1 k1 => ?_))
  refine le_aload_n C (k := 2) (a := 98) (by decide +kernel) rfl ?_
  refine le_arg C (i := i) 1 (by omega) ⟨rfl, rfl⟩ (by decide +kernel) (by decide +kernel) (by decide +kernel) (by decide +kernel) (by decide +kernel) ?_
  refine le_callV C (idx := 231) (M' := mX12_count) (a := 98) (av := [.int (xs (i + 1))]) (rest := [_]) (d := 53) (by decide +kernel) ml_L_231 mv_X12_count rfl ⟨rfl, rfl, Nat.le_of_ble_eq_true rfl⟩ ⟨by omega, hb⟩ (cx_count (hM.kf f1) hX (fun ρ f2 m2 => ?_))
  refine le_icmp_eq C (off := 5) (t := 1607) (by decide +kernel) (by decide) (fun _ => ?_) (fun q => absurd rfl q)
  exact nxt ρ _ (k1.lf f2) m2 (hX.le (by omega))
end LCs
