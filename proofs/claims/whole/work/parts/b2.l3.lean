-- the law's loop
section LLo
variable {p : Program} {l : Launch} {e : Env} {s : State} {m : MethodId} {below : List Frame} {meth : Method} {c : Code} {b L : Nat} {xs : Nat → Int32} {G : GT} {cc ss pc : Nat} {lv : Lv} {st : List Value} {σ : Mm} {X : Xw}
theorem le_tabIn (C : Lcx G p s m meth c b L xs) {dflt lo hi off : Int} {offs : Array Int} {len t : Nat} {x : Int32} (hd : decode code pc = .ok (.tableswitch dflt lo hi offs, len)) (h1 : ¬ x.toInt < lo) (h2 : ¬ hi < x.toInt) (ho : offs[(x.toInt - lo).toNat]? = some off) (ht : (pc : Int) + off = (t : Int)) (h : LB p l e s m below meth c b G cc ss t lv st σ) : LB p l e s m below meth c b G cc ss pc lv (.int x :: st) σ :=
  fun H locs ls hP hS hl => lv_tableIn C.1.1 C.1.2.1 hd h1 h2 ho ht (h H locs ls hP hS hl)
theorem le_tabOut (C : Lcx G p s m meth c b L xs) {dflt lo hi : Int} {offs : Array Int} {len t : Nat} {x : Int32} (hd : decode code pc = .ok (.tableswitch dflt lo hi offs, len)) (h1 : x.toInt < lo ∨ hi < x.toInt) (ht : (pc : Int) + dflt = (t : Int)) (h : LB p l e s m below meth c b G cc ss t lv st σ) : LB p l e s m below meth c b G cc ss pc lv (.int x :: st) σ :=
  fun H locs ls hP hS hl => lv_tableOut C.1.1 C.1.2.1 hd h1 ht (h H locs ls hP hS hl)
def swO : Array Int := #[212, 285, 310, 335, 360, 385, 453, 490, 540, 577, 590, 603, 616, 629, 642, 679, 728, 741, 754, 767, 836, 861, 874, 911, 948, 985, 1010, 1024, 1038, 1051, 1076, 1089, 1126, 1140, 1165, 1202, 1240, 1254, 1279, 1316, 1329, 1355, 1380, 1429, 1466, 1491, 1516, 1529, 1542]
theorem d_sw : decode code 40 = .ok (.tableswitch 1567 0 48 swO, 212) := by decide +kernel
theorem and63_in (x : Int32) : 0 ≤ (x &&& 63).toInt ∧ (x &&& 63).toInt ≤ 63 := by
  have h : (x &&& 63) = x &&& 63 := rfl
  have e : (x &&& 63).toInt = ((x &&& 63).toBitVec.toNat : Int) ∧ (x &&& 63).toBitVec.toNat ≤ 63 := by
    have h1 : (x &&& 63).toBitVec = x.toBitVec &&& 63#32 := rfl
    have h2 : (x &&& 63).toBitVec.toNat ≤ 63 := by
      rw [h1, BitVec.toNat_and]
      exact Nat.and_le_right
    refine ⟨?_, h2⟩
    show (x &&& 63).toBitVec.toInt = _
    rw [BitVec.toInt_eq_toNat_cond, if_pos (by omega)]
  omega
theorem law_loop (C : Lcx G p s m meth c b L xs) (hG : GX G) (Sc Ss : Nat)
    (hrate : ∀ (cc ss i N : Nat) (σ : Mm) (X : Xw), i + 6 ≤ L → N < 800000 → cc + Sc ≤ 601024 ∧ ss + Ss ≤ 7293034 → KS σ X → MS σ X → XI N X → (∀ cc' ss' τ Y, cc' ≤ cc + Sc → ss' ≤ ss + Ss → KS τ Y → MS τ Y → XI (N + 40) Y → LB p l e s m below meth c b G cc' ss' 1607 (lv0 i) [] τ) → LB p l e s m below meth c b G cc ss 425 (lv0 i) [] σ) :
    ∀ (n i cc ss N : Nat) (σ : Mm) (X : Xw), L < i + 6 * n + 6 → i ≤ L → N + 40 * n < 800000 → cc + Sc * n ≤ 601024 → ss + Ss * n ≤ 7293034 → KS σ X → MS σ X → XI N X → LB p l e s m below meth c b G cc ss 23 (lv0 i) [] σ := by
  have hL := C.2.2.2.2
  intro n
  induction n with
  | zero =>
    intro i cc ss N σ X h1 h2 h3 h4 h5 hK hM hX
    refine le_iload C (i := 4) (v := jI (i : Int)) (by decide +kernel) rfl ?_
    refine le_aload_n C (k := 0) (a := 123) (by decide +kernel) rfl ?_
    refine le_slen C (by decide +kernel) ?_
    refine le_bipush C (n := 6) (v := jI 6) (by decide +kernel) rfl ?_
    refine le_isub C (by decide +kernel) ?_
    refine le_icmp_gt C (off := 1583) (t := 1613) (by decide +kernel) (by decide) (fun _ => le_end C ⟨by omega, by omega⟩ (by decide +kernel) (by decide +kernel)) (fun q => absurd ?_ q)
    rw [jsub]
    exact (jlt (by omega) (by omega)).mpr (by omega)
  | succ n ih =>
    intro i cc ss N σ X h1 h2 h3 h4 h5 hK hM hX
    rw [Nat.mul_succ] at h3 h4 h5
    refine le_iload C (i := 4) (v := jI (i : Int)) (by decide +kernel) rfl ?_
    refine le_aload_n C (k := 0) (a := 123) (by decide +kernel) rfl ?_
    refine le_slen C (by decide +kernel) ?_
    refine le_bipush C (n := 6) (v := jI 6) (by decide +kernel) rfl ?_
    refine le_isub C (by decide +kernel) ?_
    refine le_icmp_gt C (off := 1583) (t := 1613) (by decide +kernel) (by decide) (fun _ => le_end C ⟨by omega, by omega⟩ (by decide +kernel) (by decide +kernel)) (fun q => ?_)
    have hi : i + 6 ≤ L := by
      rw [jsub] at q
      rcases Nat.lt_or_ge L (i + 6) with z | z
      · exact absurd ((jlt (a := (L : Int) - 6) (b := (i : Int)) (by omega) (by omega)).mpr (by omega)) q
      · exact z
    have nxt : ∀ cc' ss' τ Y, cc' ≤ cc + Sc → ss' ≤ ss + Ss → KS τ Y → MS τ Y → XI (N + 40) Y → LB p l e s m below meth c b G cc' ss' 1607 (lv0 i) [] τ := fun cc' ss' τ Y c1 c2 y1 y2 y3 => le_iinc6 C (off := -1587) (t := 23) (by decide +kernel) (by decide +kernel) (by decide) (ih (i + 6) cc' ss' (N + 40) τ Y (by omega) (by omega) (by omega) (by omega) (by omega) y1 y2 y3)
    have nx1 : ∀ τ Y, KS τ Y → MS τ Y → XI (N + 40) Y → LB p l e s m below meth c b G cc ss 1607 (lv0 i) [] τ := fun τ Y => nxt cc ss τ Y (by omega) (by omega)
    have hb : cc ≤ 601024 ∧ ss ≤ 7293034 := ⟨by omega, by omega⟩
    have hN : N < 800000 := by omega
    refine le_aload_n C (k := 0) (a := 123) (by decide +kernel) rfl ?_
    refine le_iload C (i := 4) (v := jI (i : Int)) (by decide +kernel) rfl ?_
    refine le_sld C i rfl (by omega) (by decide +kernel) ?_
    refine le_bipush C (n := 63) (v := 63) (by decide +kernel) rfl ?_
    refine le_iand C (by decide +kernel) ?_
    have hx := and63_in (xs i)
    generalize xs i &&& 63 = x at hx ⊢
    by_cases q9 : 48 < x.toInt
    · exact le_tabOut C (t := 1607) d_sw (Or.inr q9) (by decide) (nx1 σ X hK hM (hX.le (by omega)))
    have hcs : ∃ k : Nat, k < 49 ∧ x.toInt = (k : Int) := ⟨x.toInt.toNat, by omega, by omega⟩
    obtain ⟨k, hk, ek⟩ := hcs
    have go : ∀ (off : Int) (t : Nat), swO[k]? = some off → (40 : Int) + off = (t : Int) → LB p l e s m below meth c b G cc ss t (lv0 i) [] σ → LB p l e s m below meth c b G cc ss 40 (lv0 i) [.int x] σ := fun off t e1 e2 h => le_tabIn C d_sw (by omega) (by omega) (by rw [ek, show ((k : Int) - 0).toNat = k by omega]; exact e1) e2 h
    have nx9 := nxt
    clear ih nxt
    match k, hk with
    | 0, _ => exact go 212 252 rfl (by decide) (lc_feed C hi hG hN hb hK hM hX nx1)
    | 1, _ => exact go 285 325 rfl (by decide) (lc_end C hi hG hN hb hK hM hX nx1)
    | 2, _ => exact go 310 350 rfl (by decide) (lc_fault C hi hG hN hb hK hM hX nx1)
    | 3, _ => exact go 335 375 rfl (by decide) (lc_text C hi hG hN hb hK hM hX nx1)
    | 4, _ => exact go 360 400 rfl (by decide) (lc_rule C hi hG hN hb hK hM hX nx1)
    | 5, _ => exact go 385 425 rfl (by decide) (hrate cc ss i N σ X hi hN ⟨by omega, by omega⟩ hK hM hX nx9)
    | 6, _ => exact go 453 493 rfl (by decide) (lc_year C hi hG hN hb hK hM hX nx1)
    | 7, _ => exact go 490 530 rfl (by decide) (lc_costs C hi hG hN hb hK hM hX nx1)
    | 8, _ => exact go 540 580 rfl (by decide) (lc_best C hi hG hN hb hK hM hX nx1)
    | 9, _ => exact go 577 617 rfl (by decide) (lc_up C hi hG hN hb hK hM hX nx1)
    | 10, _ => exact go 590 630 rfl (by decide) (lc_down C hi hG hN hb hK hM hX nx1)
    | 11, _ => exact go 603 643 rfl (by decide) (lc_call C hi hG hN hb hK hM hX nx1)
    | 12, _ => exact go 616 656 rfl (by decide) (lc_refund C hi hG hN hb hK hM hX nx1)
    | 13, _ => exact go 629 669 rfl (by decide) (lc_withdraw C hi hG hN hb hK hM hX nx1)
    | 14, _ => exact go 642 682 rfl (by decide) (lc_instal C hi hG hN hb hK hM hX nx1)
    | 15, _ => exact go 679 719 rfl (by decide) (lc_tell C hi hG hN hb hK hM hX nx1)
    | 16, _ => exact go 728 768 rfl (by decide) (lc_doBest C hi hG hN hb hK hM hX nx1)
    | 17, _ => exact go 741 781 rfl (by decide) (lc_adopt C hi hG hN hb hK hM hX nx1)
    | 18, _ => exact go 754 794 rfl (by decide) (lc_follow C hi hG hN hb hK hM hX nx1)
    | 19, _ => exact go 767 807 rfl (by decide) (lc_years C hi hG hN hb hK hM hX nx1)
    | 20, _ => exact go 836 876 rfl (by decide) (lc_status C hi hG hN hb hK hM hX nx1)
    | 21, _ => exact go 861 901 rfl (by decide) (lc_undo C hi hG hN hb hK hM hX nx1)
    | 22, _ => exact go 874 914 rfl (by decide) (lc_log C hi hG hN hb hK hM hX nx1)
    | 23, _ => exact go 911 951 rfl (by decide) (lc_way C hi hG hN hb hK hM hX nx1)
    | 24, _ => exact go 948 988 rfl (by decide) (lc_mass C hi hG hN hb hK hM hX nx1)
    | 25, _ => exact go 985 1025 rfl (by decide) (lc_masses C hi hG hN hb hK hM hX nx1)
    | 26, _ => exact go 1010 1050 rfl (by decide) (lc_worth C hi hG hN hb hK hM hX nx1)
    | 27, _ => exact go 1024 1064 rfl (by decide) (lc_margin C hi hG hN hb hK hM hX nx1)
    | 28, _ => exact go 1038 1078 rfl (by decide) (lc_till C hi hG hN hb hK hM hX nx1)
    | 29, _ => exact go 1051 1091 rfl (by decide) (lc_edge C hi hG hN hb hK hM hX nx1)
    | 30, _ => exact go 1076 1116 rfl (by decide) (lc_fair C hi hG hN hb hK hM hX nx1)
    | 31, _ => exact go 1089 1129 rfl (by decide) (lc_ending C hi hG hN hb hK hM hX nx1)
    | 32, _ => exact go 1126 1166 rfl (by decide) (lc_saved C hi hG hN hb hK hM hX nx1)
    | 33, _ => exact go 1140 1180 rfl (by decide) (lc_sums C hi hG hN hb hK hM hX nx1)
    | 34, _ => exact go 1165 1205 rfl (by decide) (lc_deed C hi hG hN hb hK hM hX nx1)
    | 35, _ => exact go 1202 1242 rfl (by decide) (lc_byPolicy C hi hG hN hb hK hM hX nx1)
    | 36, _ => exact go 1240 1280 rfl (by decide) (lc_regret C hi hG hN hb hK hM hX nx1)
    | 37, _ => exact go 1254 1294 rfl (by decide) (lc_strays C hi hG hN hb hK hM hX nx1)
    | 38, _ => exact go 1279 1319 rfl (by decide) (lc_mended C hi hG hN hb hK hM hX nx1)
    | 39, _ => exact go 1316 1356 rfl (by decide) (lc_rounds C hi hG hN hb hK hM hX nx1)
    | 40, _ => exact go 1329 1369 rfl (by decide) (lc_shifted C hi hG hN hb hK hM hX nx1)
    | 41, _ => exact go 1355 1395 rfl (by decide) (lc_spread C hi hG hN hb hK hM hX nx1)
    | 42, _ => exact go 1380 1420 rfl (by decide) (lc_step C hi hG hN hb hK hM hX nx1)
    | 43, _ => exact go 1429 1469 rfl (by decide) (lc_run C hi hG hN hb hK hM hX nx1)
    | 44, _ => exact go 1466 1506 rfl (by decide) (lc_perform C hi hG hN hb hK hM hX nx1)
    | 45, _ => exact go 1491 1531 rfl (by decide) (lc_most C hi hG hN hb hK hM hX nx1)
    | 46, _ => exact go 1516 1556 rfl (by decide) (lc_image C hi hG hN hb hK hM hX nx1)
    | 47, _ => exact go 1529 1569 rfl (by decide) (lc_back C hi hG hN hb hK hM hX nx1)
    | 48, _ => exact go 1542 1582 rfl (by decide) (lc_count C hi hG hN hb hK hM hX nx1)
    | k + 49, hk => omega
end LLo
