def TX4_readNumber : List In := [(0, 1, zt_aload 0), (1, 4, zt_callVF mX4_skipBlanks 0 13), (4, 5, zt_aload 0), (5, 8, zt_getL 13 4), (8, 9, zt_aload 0), (9, 12, zt_getI 13 5), (12, 15, zt_callVF mX9_at 1 17), (15, 18, zt_callSF mX4_isDigit 1), (18, 21, zt_if_ne 26), (21, 22, zt_aload 0), (22, 25, zt_getI 13 5), (25, 26, zt_iret), (26, 27, zt_aload 0), (27, 28, zt_ic 0), (28, 31, zt_putI 13 6), (31, 32, zt_ic 0), (32, 33, zt_istoreF 3), (33, 34, zt_iload 3), (34, 35, zt_ic 4), (35, 38, zt_icmp_gt 107), (38, 39, zt_aload 0), (39, 42, zt_getL 13 4), (42, 43, zt_aload 0), (43, 46, zt_getI 13 5), (46, 49, zt_callVF mX9_at 1 17), (49, 52, zt_callSF mX4_isDigit 1), (52, 55, zt_if_eq 107), (55, 56, zt_iload 3), (56, 57, zt_ic 4), (57, 60, zt_icmp_ne 65), (60, 61, zt_aload 0), (61, 64, zt_getI 13 5), (64, 65, zt_iret), (65, 66, zt_aload 0), (66, 67, zt_aload 0), (67, 70, zt_getI 13 6), (70, 72, zt_ic 10), (72, 73, zt_imul), (73, 74, zt_aload 0), (74, 77, zt_getL 13 4), (77, 78, zt_aload 0), (78, 81, zt_getI 13 5), (81, 84, zt_callVF mX9_at 1 17), (84, 85, zt_iadd), (85, 87, zt_ic 48), (87, 88, zt_isub), (88, 91, zt_putI 13 6), (91, 92, zt_aload 0), (92, 93, zt_dup), (93, 96, zt_getI 13 5), (96, 97, zt_ic 1), (97, 98, zt_iadd), (98, 101, zt_putI 13 5), (101, 104, zt_iincF 3 1), (104, 107, zt_goto 33), (107, 108, zt_aload 0), (108, 111, zt_getI 13 6), (111, 112, zt_iload 1), (112, 115, zt_icmp_lt 123), (115, 116, zt_aload 0), (116, 119, zt_getI 13 6), (119, 120, zt_iload 2), (120, 123, zt_icmp_le 132), (123, 124, zt_aload 0), (124, 127, zt_getI 13 5), (127, 128, zt_ic 1), (128, 129, zt_isub), (129, 132, zt_goto 133), (132, 133, zt_ic (-1)), (133, 134, zt_iret)]
theorem TX4_readNumber_ok : ∀ i ∈ TX4_readNumber, Ent mX4_readNumber i := by
  refine List.forall_mem_cons.mpr ⟨ze_aload_n (k := 0) (by decide +kernel) rfl, ?_⟩
  refine List.forall_mem_cons.mpr ⟨ze_callVF (idx := 59) (by decide +kernel) ml_X4_59 mv_X4_skipBlanks rfl, ?_⟩
  refine List.forall_mem_cons.mpr ⟨ze_aload_n (k := 0) (by decide +kernel) rfl, ?_⟩
  refine List.forall_mem_cons.mpr ⟨ze_getL (by decide +kernel) fl_X4_23 rfl (by decide), ?_⟩
  refine List.forall_mem_cons.mpr ⟨ze_aload_n (k := 0) (by decide +kernel) rfl, ?_⟩
  refine List.forall_mem_cons.mpr ⟨ze_getI (by decide +kernel) fl_X4_27 rfl, ?_⟩
  refine List.forall_mem_cons.mpr ⟨ze_callVF (idx := 66) (by decide +kernel) ml_X4_66 mv_X9_at rfl, ?_⟩
  refine List.forall_mem_cons.mpr ⟨ze_callSF (idx := 116) (by decide +kernel) ml_X4_116 ms_X4_isDigit, ?_⟩
  refine List.forall_mem_cons.mpr ⟨ze_if_ne (off := 8) (by decide +kernel) (by decide), ?_⟩
  refine List.forall_mem_cons.mpr ⟨ze_aload_n (k := 0) (by decide +kernel) rfl, ?_⟩
  refine List.forall_mem_cons.mpr ⟨ze_getI (by decide +kernel) fl_X4_27 rfl, ?_⟩
  refine List.forall_mem_cons.mpr ⟨ze_iret (by decide +kernel) rfl, ?_⟩
  refine List.forall_mem_cons.mpr ⟨ze_aload_n (k := 0) (by decide +kernel) rfl, ?_⟩
  refine List.forall_mem_cons.mpr ⟨ze_iconst (n := 0) (by decide +kernel) (by decide), ?_⟩
  refine List.forall_mem_cons.mpr ⟨ze_putI (by decide +kernel) fl_X4_100 ⟨_, _, _, rfl, rfl, by decide +kernel⟩ rfl, ?_⟩
  refine List.forall_mem_cons.mpr ⟨ze_iconst (n := 0) (by decide +kernel) (by decide), ?_⟩
  refine List.forall_mem_cons.mpr ⟨ze_istoreF_n (k := 3) (by decide +kernel) rfl (by decide), ?_⟩
  refine List.forall_mem_cons.mpr ⟨ze_iload_n (k := 3) (by decide +kernel) rfl, ?_⟩
  refine List.forall_mem_cons.mpr ⟨ze_iconst (n := 4) (by decide +kernel) (by decide), ?_⟩
  refine List.forall_mem_cons.mpr ⟨ze_icmp_gt (off := 72) (by decide +kernel) (by decide), ?_⟩
  refine List.forall_mem_cons.mpr ⟨ze_aload_n (k := 0) (by decide +kernel) rfl, ?_⟩
  refine List.forall_mem_cons.mpr ⟨ze_getL (by decide +kernel) fl_X4_23 rfl (by decide), ?_⟩
  refine List.forall_mem_cons.mpr ⟨ze_aload_n (k := 0) (by decide +kernel) rfl, ?_⟩
  refine List.forall_mem_cons.mpr ⟨ze_getI (by decide +kernel) fl_X4_27 rfl, ?_⟩
  refine List.forall_mem_cons.mpr ⟨ze_callVF (idx := 66) (by decide +kernel) ml_X4_66 mv_X9_at rfl, ?_⟩
  refine List.forall_mem_cons.mpr ⟨ze_callSF (idx := 116) (by decide +kernel) ml_X4_116 ms_X4_isDigit, ?_⟩
  refine List.forall_mem_cons.mpr ⟨ze_if_eq (off := 55) (by decide +kernel) (by decide), ?_⟩
  refine List.forall_mem_cons.mpr ⟨ze_iload_n (k := 3) (by decide +kernel) rfl, ?_⟩
  refine List.forall_mem_cons.mpr ⟨ze_iconst (n := 4) (by decide +kernel) (by decide), ?_⟩
  refine List.forall_mem_cons.mpr ⟨ze_icmp_ne (off := 8) (by decide +kernel) (by decide), ?_⟩
  refine List.forall_mem_cons.mpr ⟨ze_aload_n (k := 0) (by decide +kernel) rfl, ?_⟩
  refine List.forall_mem_cons.mpr ⟨ze_getI (by decide +kernel) fl_X4_27 rfl, ?_⟩
  refine List.forall_mem_cons.mpr ⟨ze_iret (by decide +kernel) rfl, ?_⟩
  refine List.forall_mem_cons.mpr ⟨ze_aload_n (k := 0) (by decide +kernel) rfl, ?_⟩
  refine List.forall_mem_cons.mpr ⟨ze_aload_n (k := 0) (by decide +kernel) rfl, ?_⟩
  refine List.forall_mem_cons.mpr ⟨ze_getI (by decide +kernel) fl_X4_100 rfl, ?_⟩
  refine List.forall_mem_cons.mpr ⟨ze_bipush (n := 10) (by decide +kernel) (by decide), ?_⟩
  refine List.forall_mem_cons.mpr ⟨ze_imul (by decide +kernel), ?_⟩
  refine List.forall_mem_cons.mpr ⟨ze_aload_n (k := 0) (by decide +kernel) rfl, ?_⟩
  refine List.forall_mem_cons.mpr ⟨ze_getL (by decide +kernel) fl_X4_23 rfl (by decide), ?_⟩
  refine List.forall_mem_cons.mpr ⟨ze_aload_n (k := 0) (by decide +kernel) rfl, ?_⟩
  refine List.forall_mem_cons.mpr ⟨ze_getI (by decide +kernel) fl_X4_27 rfl, ?_⟩
  refine List.forall_mem_cons.mpr ⟨ze_callVF (idx := 66) (by decide +kernel) ml_X4_66 mv_X9_at rfl, ?_⟩
  refine List.forall_mem_cons.mpr ⟨ze_iadd (by decide +kernel), ?_⟩
  refine List.forall_mem_cons.mpr ⟨ze_bipush (n := 48) (by decide +kernel) (by decide), ?_⟩
  refine List.forall_mem_cons.mpr ⟨ze_isub (by decide +kernel), ?_⟩
  refine List.forall_mem_cons.mpr ⟨ze_putI (by decide +kernel) fl_X4_100 ⟨_, _, _, rfl, rfl, by decide +kernel⟩ rfl, ?_⟩
  refine List.forall_mem_cons.mpr ⟨ze_aload_n (k := 0) (by decide +kernel) rfl, ?_⟩
  refine List.forall_mem_cons.mpr ⟨ze_dup (by decide +kernel), ?_⟩
  refine List.forall_mem_cons.mpr ⟨ze_getI (by decide +kernel) fl_X4_27 rfl, ?_⟩
  refine List.forall_mem_cons.mpr ⟨ze_iconst (n := 1) (by decide +kernel) (by decide), ?_⟩
  refine List.forall_mem_cons.mpr ⟨ze_iadd (by decide +kernel), ?_⟩
  refine List.forall_mem_cons.mpr ⟨ze_putI (by decide +kernel) fl_X4_27 ⟨_, _, _, rfl, rfl, by decide +kernel⟩ rfl, ?_⟩
  refine List.forall_mem_cons.mpr ⟨ze_iincF (n := 1) (by decide +kernel) (by decide) (by decide), ?_⟩
  refine List.forall_mem_cons.mpr ⟨ze_goto (off := -71) (by decide +kernel) (by decide), ?_⟩
  refine List.forall_mem_cons.mpr ⟨ze_aload_n (k := 0) (by decide +kernel) rfl, ?_⟩
  refine List.forall_mem_cons.mpr ⟨ze_getI (by decide +kernel) fl_X4_100 rfl, ?_⟩
  refine List.forall_mem_cons.mpr ⟨ze_iload_n (k := 1) (by decide +kernel) rfl, ?_⟩
  refine List.forall_mem_cons.mpr ⟨ze_icmp_lt (off := 11) (by decide +kernel) (by decide), ?_⟩
  refine List.forall_mem_cons.mpr ⟨ze_aload_n (k := 0) (by decide +kernel) rfl, ?_⟩
  refine List.forall_mem_cons.mpr ⟨ze_getI (by decide +kernel) fl_X4_100 rfl, ?_⟩
  refine List.forall_mem_cons.mpr ⟨ze_iload_n (k := 2) (by decide +kernel) rfl, ?_⟩
  refine List.forall_mem_cons.mpr ⟨ze_icmp_le (off := 12) (by decide +kernel) (by decide), ?_⟩
  refine List.forall_mem_cons.mpr ⟨ze_aload_n (k := 0) (by decide +kernel) rfl, ?_⟩
  refine List.forall_mem_cons.mpr ⟨ze_getI (by decide +kernel) fl_X4_27 rfl, ?_⟩
  refine List.forall_mem_cons.mpr ⟨ze_iconst (n := 1) (by decide +kernel) (by decide), ?_⟩
  refine List.forall_mem_cons.mpr ⟨ze_isub (by decide +kernel), ?_⟩
  refine List.forall_mem_cons.mpr ⟨ze_goto (off := 4) (by decide +kernel) (by decide), ?_⟩
  refine List.forall_mem_cons.mpr ⟨ze_iconst (n := -1) (by decide +kernel) (by decide), ?_⟩
  refine List.forall_mem_cons.mpr ⟨ze_iret (by decide +kernel) rfl, ?_⟩
  exact fun _ h => absurd h List.not_mem_nil
theorem vX4_readNumber {l : Launch} {G : GT} {d : Nat} {av : List Value} {Q : Po} {σ : Mm} (cs : List (Nat × List Nat)) (k : Nat) (h : vc l G d mX4_readNumber TX4_readNumber Q cs k TX4_readNumber (lv_args 0 av) [] σ) (hlen : (lg_sl av).length ≤ mX4_readNumber.2.2.1 := by exact Nat.le_of_ble_eq_true rfl) : MW l G d mX4_readNumber av σ Q := mw_vc TX4_readNumber_ok mc_X4_readNumber rfl hlen cs k rfl h
theorem wX4_readNumber {l : Launch} {G : GT} {d : Nat} {Q : Po} {pc : Nat} {lv : Lv} {st : List Value} {σ : Mm} (cs : List (Nat × List Nat)) (k : Nat) (h : vc l G d mX4_readNumber TX4_readNumber Q cs k (drp TX4_readNumber pc) lv st σ) (hpc : hdp (drp TX4_readNumber pc) = pc := by rfl) : Wp l G d mX4_readNumber pc lv st σ Q := wp_vc TX4_readNumber_ok cs k hpc h
def TX4_isDigit : List In := [(0, 1, zt_iload 0), (1, 3, zt_ic 48), (3, 6, zt_icmp_lt 16), (6, 7, zt_iload 0), (7, 9, zt_ic 57), (9, 12, zt_icmp_gt 16), (12, 13, zt_ic 1), (13, 16, zt_goto 17), (16, 17, zt_ic 0), (17, 18, zt_zret)]
theorem TX4_isDigit_ok : ∀ i ∈ TX4_isDigit, Ent mX4_isDigit i := by
  refine List.forall_mem_cons.mpr ⟨ze_iload_n (k := 0) (by decide +kernel) rfl, ?_⟩
  refine List.forall_mem_cons.mpr ⟨ze_bipush (n := 48) (by decide +kernel) (by decide), ?_⟩
  refine List.forall_mem_cons.mpr ⟨ze_icmp_lt (off := 13) (by decide +kernel) (by decide), ?_⟩
  refine List.forall_mem_cons.mpr ⟨ze_iload_n (k := 0) (by decide +kernel) rfl, ?_⟩
  refine List.forall_mem_cons.mpr ⟨ze_bipush (n := 57) (by decide +kernel) (by decide), ?_⟩
  refine List.forall_mem_cons.mpr ⟨ze_icmp_gt (off := 7) (by decide +kernel) (by decide), ?_⟩
  refine List.forall_mem_cons.mpr ⟨ze_iconst (n := 1) (by decide +kernel) (by decide), ?_⟩
  refine List.forall_mem_cons.mpr ⟨ze_goto (off := 4) (by decide +kernel) (by decide), ?_⟩
  refine List.forall_mem_cons.mpr ⟨ze_iconst (n := 0) (by decide +kernel) (by decide), ?_⟩
  refine List.forall_mem_cons.mpr ⟨ze_zret (by decide +kernel) rfl, ?_⟩
  exact fun _ h => absurd h List.not_mem_nil
theorem vX4_isDigit {l : Launch} {G : GT} {d : Nat} {av : List Value} {Q : Po} {σ : Mm} (cs : List (Nat × List Nat)) (k : Nat) (h : vc l G d mX4_isDigit TX4_isDigit Q cs k TX4_isDigit (lv_args 0 av) [] σ) (hlen : (lg_sl av).length ≤ mX4_isDigit.2.2.1 := by exact Nat.le_of_ble_eq_true rfl) : MW l G d mX4_isDigit av σ Q := mw_vc TX4_isDigit_ok mc_X4_isDigit rfl hlen cs k rfl h
theorem wX4_isDigit {l : Launch} {G : GT} {d : Nat} {Q : Po} {pc : Nat} {lv : Lv} {st : List Value} {σ : Mm} (cs : List (Nat × List Nat)) (k : Nat) (h : vc l G d mX4_isDigit TX4_isDigit Q cs k (drp TX4_isDigit pc) lv st σ) (hpc : hdp (drp TX4_isDigit pc) = pc := by rfl) : Wp l G d mX4_isDigit pc lv st σ Q := wp_vc TX4_isDigit_ok cs k hpc h
def TX4_skipBlanks : List In := [(0, 1, zt_aload 0), (1, 4, zt_getI 13 5), (4, 5, zt_aload 0), (5, 8, zt_getL 13 4), (8, 11, zt_getI 17 1), (11, 14, zt_icmp_ge 43), (14, 15, zt_aload 0), (15, 18, zt_getL 13 4), (18, 19, zt_aload 0), (19, 22, zt_getI 13 5), (22, 25, zt_callVF mX9_at 1 17), (25, 27, zt_ic 32), (27, 30, zt_icmp_ne 43), (30, 31, zt_aload 0), (31, 32, zt_dup), (32, 35, zt_getI 13 5), (35, 36, zt_ic 1), (36, 37, zt_iadd), (37, 40, zt_putI 13 5), (40, 43, zt_goto 0), (43, 44, zt_vret)]
theorem TX4_skipBlanks_ok : ∀ i ∈ TX4_skipBlanks, Ent mX4_skipBlanks i := by
  refine List.forall_mem_cons.mpr ⟨ze_aload_n (k := 0) (by decide +kernel) rfl, ?_⟩
  refine List.forall_mem_cons.mpr ⟨ze_getI (by decide +kernel) fl_X4_27 rfl, ?_⟩
  refine List.forall_mem_cons.mpr ⟨ze_aload_n (k := 0) (by decide +kernel) rfl, ?_⟩
  refine List.forall_mem_cons.mpr ⟨ze_getL (by decide +kernel) fl_X4_23 rfl (by decide), ?_⟩
  refine List.forall_mem_cons.mpr ⟨ze_getI (by decide +kernel) fl_X4_78 rfl, ?_⟩
  refine List.forall_mem_cons.mpr ⟨ze_icmp_ge (off := 32) (by decide +kernel) (by decide), ?_⟩
  refine List.forall_mem_cons.mpr ⟨ze_aload_n (k := 0) (by decide +kernel) rfl, ?_⟩
  refine List.forall_mem_cons.mpr ⟨ze_getL (by decide +kernel) fl_X4_23 rfl (by decide), ?_⟩
  refine List.forall_mem_cons.mpr ⟨ze_aload_n (k := 0) (by decide +kernel) rfl, ?_⟩
  refine List.forall_mem_cons.mpr ⟨ze_getI (by decide +kernel) fl_X4_27 rfl, ?_⟩
  refine List.forall_mem_cons.mpr ⟨ze_callVF (idx := 66) (by decide +kernel) ml_X4_66 mv_X9_at rfl, ?_⟩
  refine List.forall_mem_cons.mpr ⟨ze_bipush (n := 32) (by decide +kernel) (by decide), ?_⟩
  refine List.forall_mem_cons.mpr ⟨ze_icmp_ne (off := 16) (by decide +kernel) (by decide), ?_⟩
  refine List.forall_mem_cons.mpr ⟨ze_aload_n (k := 0) (by decide +kernel) rfl, ?_⟩
  refine List.forall_mem_cons.mpr ⟨ze_dup (by decide +kernel), ?_⟩
  refine List.forall_mem_cons.mpr ⟨ze_getI (by decide +kernel) fl_X4_27 rfl, ?_⟩
  refine List.forall_mem_cons.mpr ⟨ze_iconst (n := 1) (by decide +kernel) (by decide), ?_⟩
  refine List.forall_mem_cons.mpr ⟨ze_iadd (by decide +kernel), ?_⟩
  refine List.forall_mem_cons.mpr ⟨ze_putI (by decide +kernel) fl_X4_27 ⟨_, _, _, rfl, rfl, by decide +kernel⟩ rfl, ?_⟩
  refine List.forall_mem_cons.mpr ⟨ze_goto (off := -40) (by decide +kernel) (by decide), ?_⟩
  refine List.forall_mem_cons.mpr ⟨ze_vret (by decide +kernel) rfl, ?_⟩
  exact fun _ h => absurd h List.not_mem_nil
theorem vX4_skipBlanks {l : Launch} {G : GT} {d : Nat} {av : List Value} {Q : Po} {σ : Mm} (cs : List (Nat × List Nat)) (k : Nat) (h : vc l G d mX4_skipBlanks TX4_skipBlanks Q cs k TX4_skipBlanks (lv_args 0 av) [] σ) (hlen : (lg_sl av).length ≤ mX4_skipBlanks.2.2.1 := by exact Nat.le_of_ble_eq_true rfl) : MW l G d mX4_skipBlanks av σ Q := mw_vc TX4_skipBlanks_ok mc_X4_skipBlanks rfl hlen cs k rfl h
theorem wX4_skipBlanks {l : Launch} {G : GT} {d : Nat} {Q : Po} {pc : Nat} {lv : Lv} {st : List Value} {σ : Mm} (cs : List (Nat × List Nat)) (k : Nat) (h : vc l G d mX4_skipBlanks TX4_skipBlanks Q cs k (drp TX4_skipBlanks pc) lv st σ) (hpc : hdp (drp TX4_skipBlanks pc) = pc := by rfl) : Wp l G d mX4_skipBlanks pc lv st σ Q := wp_vc TX4_skipBlanks_ok cs k hpc h
def TX4_placeOf : List In := [(0, 1, zt_iload 1), (1, 3, zt_istoreF 4), (3, 5, zt_iload 4), (5, 6, zt_iload 2), (6, 9, zt_icmp_ge 33), (9, 11, zt_iload 4), (11, 12, zt_aload 0), (12, 13, zt_slen), (13, 16, zt_icmp_ge 33), (16, 17, zt_aload 0), (17, 19, zt_iload 4), (19, 20, zt_sld .char), (20, 21, zt_iload 3), (21, 24, zt_icmp_ne 27), (24, 26, zt_iload 4), (26, 27, zt_iret), (27, 30, zt_iincF 4 1), (30, 33, zt_goto 3), (33, 34, zt_ic (-1)), (34, 35, zt_iret)]
theorem TX4_placeOf_ok : ∀ i ∈ TX4_placeOf, Ent mX4_placeOf i := by
  refine List.forall_mem_cons.mpr ⟨ze_iload_n (k := 1) (by decide +kernel) rfl, ?_⟩
  refine List.forall_mem_cons.mpr ⟨ze_istoreF (by decide +kernel) (by decide), ?_⟩
  refine List.forall_mem_cons.mpr ⟨ze_iload (by decide +kernel), ?_⟩
  refine List.forall_mem_cons.mpr ⟨ze_iload_n (k := 2) (by decide +kernel) rfl, ?_⟩
  refine List.forall_mem_cons.mpr ⟨ze_icmp_ge (off := 27) (by decide +kernel) (by decide), ?_⟩
  refine List.forall_mem_cons.mpr ⟨ze_iload (by decide +kernel), ?_⟩
  refine List.forall_mem_cons.mpr ⟨ze_aload_n (k := 0) (by decide +kernel) rfl, ?_⟩
  refine List.forall_mem_cons.mpr ⟨ze_slen (by decide +kernel), ?_⟩
  refine List.forall_mem_cons.mpr ⟨ze_icmp_ge (off := 20) (by decide +kernel) (by decide), ?_⟩
  refine List.forall_mem_cons.mpr ⟨ze_aload_n (k := 0) (by decide +kernel) rfl, ?_⟩
  refine List.forall_mem_cons.mpr ⟨ze_iload (by decide +kernel), ?_⟩
  refine List.forall_mem_cons.mpr ⟨ze_scald (by decide +kernel), ?_⟩
  refine List.forall_mem_cons.mpr ⟨ze_iload_n (k := 3) (by decide +kernel) rfl, ?_⟩
  refine List.forall_mem_cons.mpr ⟨ze_icmp_ne (off := 6) (by decide +kernel) (by decide), ?_⟩
  refine List.forall_mem_cons.mpr ⟨ze_iload (by decide +kernel), ?_⟩
  refine List.forall_mem_cons.mpr ⟨ze_iret (by decide +kernel) rfl, ?_⟩
  refine List.forall_mem_cons.mpr ⟨ze_iincF (n := 1) (by decide +kernel) (by decide) (by decide), ?_⟩
  refine List.forall_mem_cons.mpr ⟨ze_goto (off := -27) (by decide +kernel) (by decide), ?_⟩
  refine List.forall_mem_cons.mpr ⟨ze_iconst (n := -1) (by decide +kernel) (by decide), ?_⟩
  refine List.forall_mem_cons.mpr ⟨ze_iret (by decide +kernel) rfl, ?_⟩
  exact fun _ h => absurd h List.not_mem_nil
theorem vX4_placeOf {l : Launch} {G : GT} {d : Nat} {av : List Value} {Q : Po} {σ : Mm} (cs : List (Nat × List Nat)) (k : Nat) (h : vc l G d mX4_placeOf TX4_placeOf Q cs k TX4_placeOf (lv_args 0 av) [] σ) (hlen : (lg_sl av).length ≤ mX4_placeOf.2.2.1 := by exact Nat.le_of_ble_eq_true rfl) : MW l G d mX4_placeOf av σ Q := mw_vc TX4_placeOf_ok mc_X4_placeOf rfl hlen cs k rfl h
theorem wX4_placeOf {l : Launch} {G : GT} {d : Nat} {Q : Po} {pc : Nat} {lv : Lv} {st : List Value} {σ : Mm} (cs : List (Nat × List Nat)) (k : Nat) (h : vc l G d mX4_placeOf TX4_placeOf Q cs k (drp TX4_placeOf pc) lv st σ) (hpc : hdp (drp TX4_placeOf pc) = pc := by rfl) : Wp l G d mX4_placeOf pc lv st σ Q := wp_vc TX4_placeOf_ok cs k hpc h
def TX6_has : List In := [(0, 1, zt_iload 1), (1, 4, zt_if_lt 16), (4, 5, zt_iload 1), (5, 6, zt_aload 0), (6, 9, zt_getI 14 2), (9, 12, zt_icmp_ge 16), (12, 13, zt_ic 1), (13, 16, zt_goto 17), (16, 17, zt_ic 0), (17, 18, zt_zret)]
theorem TX6_has_ok : ∀ i ∈ TX6_has, Ent mX6_has i := by
  refine List.forall_mem_cons.mpr ⟨ze_iload_n (k := 1) (by decide +kernel) rfl, ?_⟩
  refine List.forall_mem_cons.mpr ⟨ze_if_lt (off := 15) (by decide +kernel) (by decide), ?_⟩
  refine List.forall_mem_cons.mpr ⟨ze_iload_n (k := 1) (by decide +kernel) rfl, ?_⟩
  refine List.forall_mem_cons.mpr ⟨ze_aload_n (k := 0) (by decide +kernel) rfl, ?_⟩
  refine List.forall_mem_cons.mpr ⟨ze_getI (by decide +kernel) fl_X6_18 rfl, ?_⟩
  refine List.forall_mem_cons.mpr ⟨ze_icmp_ge (off := 7) (by decide +kernel) (by decide), ?_⟩
  refine List.forall_mem_cons.mpr ⟨ze_iconst (n := 1) (by decide +kernel) (by decide), ?_⟩
  refine List.forall_mem_cons.mpr ⟨ze_goto (off := 4) (by decide +kernel) (by decide), ?_⟩
  refine List.forall_mem_cons.mpr ⟨ze_iconst (n := 0) (by decide +kernel) (by decide), ?_⟩
  refine List.forall_mem_cons.mpr ⟨ze_zret (by decide +kernel) rfl, ?_⟩
  exact fun _ h => absurd h List.not_mem_nil
theorem vX6_has {l : Launch} {G : GT} {d : Nat} {av : List Value} {Q : Po} {σ : Mm} (cs : List (Nat × List Nat)) (k : Nat) (h : vc l G d mX6_has TX6_has Q cs k TX6_has (lv_args 0 av) [] σ) (hlen : (lg_sl av).length ≤ mX6_has.2.2.1 := by exact Nat.le_of_ble_eq_true rfl) : MW l G d mX6_has av σ Q := mw_vc TX6_has_ok mc_X6_has rfl hlen cs k rfl h
theorem wX6_has {l : Launch} {G : GT} {d : Nat} {Q : Po} {pc : Nat} {lv : Lv} {st : List Value} {σ : Mm} (cs : List (Nat × List Nat)) (k : Nat) (h : vc l G d mX6_has TX6_has Q cs k (drp TX6_has pc) lv st σ) (hpc : hdp (drp TX6_has pc) = pc := by rfl) : Wp l G d mX6_has pc lv st σ Q := wp_vc TX6_has_ok cs k hpc h
def TX6_sizeOf : List In := [(0, 1, zt_aload 0), (1, 2, zt_iload 1), (2, 5, zt_callVF mX6_has 1 14), (5, 8, zt_if_eq 17), (8, 9, zt_aload 0), (9, 12, zt_getL 14 1), (12, 13, zt_iload 1), (13, 14, zt_iald), (14, 17, zt_goto 18), (17, 18, zt_ic 0), (18, 19, zt_iret)]
theorem TX6_sizeOf_ok : ∀ i ∈ TX6_sizeOf, Ent mX6_sizeOf i := by
  refine List.forall_mem_cons.mpr ⟨ze_aload_n (k := 0) (by decide +kernel) rfl, ?_⟩
  refine List.forall_mem_cons.mpr ⟨ze_iload_n (k := 1) (by decide +kernel) rfl, ?_⟩
  refine List.forall_mem_cons.mpr ⟨ze_callVF (idx := 22) (by decide +kernel) ml_X6_22 mv_X6_has rfl, ?_⟩
  refine List.forall_mem_cons.mpr ⟨ze_if_eq (off := 12) (by decide +kernel) (by decide), ?_⟩
  refine List.forall_mem_cons.mpr ⟨ze_aload_n (k := 0) (by decide +kernel) rfl, ?_⟩
  refine List.forall_mem_cons.mpr ⟨ze_getL (by decide +kernel) fl_X6_15 rfl (by decide), ?_⟩
  refine List.forall_mem_cons.mpr ⟨ze_iload_n (k := 1) (by decide +kernel) rfl, ?_⟩
  refine List.forall_mem_cons.mpr ⟨ze_iald (by decide +kernel), ?_⟩
  refine List.forall_mem_cons.mpr ⟨ze_goto (off := 4) (by decide +kernel) (by decide), ?_⟩
  refine List.forall_mem_cons.mpr ⟨ze_iconst (n := 0) (by decide +kernel) (by decide), ?_⟩
  refine List.forall_mem_cons.mpr ⟨ze_iret (by decide +kernel) rfl, ?_⟩
  exact fun _ h => absurd h List.not_mem_nil
theorem vX6_sizeOf {l : Launch} {G : GT} {d : Nat} {av : List Value} {Q : Po} {σ : Mm} (cs : List (Nat × List Nat)) (k : Nat) (h : vc l G d mX6_sizeOf TX6_sizeOf Q cs k TX6_sizeOf (lv_args 0 av) [] σ) (hlen : (lg_sl av).length ≤ mX6_sizeOf.2.2.1 := by exact Nat.le_of_ble_eq_true rfl) : MW l G d mX6_sizeOf av σ Q := mw_vc TX6_sizeOf_ok mc_X6_sizeOf rfl hlen cs k rfl h
theorem wX6_sizeOf {l : Launch} {G : GT} {d : Nat} {Q : Po} {pc : Nat} {lv : Lv} {st : List Value} {σ : Mm} (cs : List (Nat × List Nat)) (k : Nat) (h : vc l G d mX6_sizeOf TX6_sizeOf Q cs k (drp TX6_sizeOf pc) lv st σ) (hpc : hdp (drp TX6_sizeOf pc) = pc := by rfl) : Wp l G d mX6_sizeOf pc lv st σ Q := wp_vc TX6_sizeOf_ok cs k hpc h
def TX6_number : List In := [(0, 1, zt_iload 2), (1, 4, zt_if_lt 26), (4, 5, zt_iload 2), (5, 6, zt_aload 0), (6, 7, zt_iload 1), (7, 10, zt_callVF mX6_sizeOf 1 14), (10, 13, zt_icmp_ge 26), (13, 14, zt_iload 3), (14, 17, zt_if_lt 26), (17, 18, zt_iload 3), (18, 19, zt_ic 4), (19, 22, zt_icmp_ge 26), (22, 23, zt_ic 1), (23, 26, zt_goto 27), (26, 27, zt_ic 0), (27, 29, zt_istoreF 4), (29, 31, zt_iload 4), (31, 34, zt_if_eq 52), (34, 35, zt_aload 0), (35, 38, zt_getL 14 0), (38, 39, zt_iload 1), (39, 41, zt_ic 16), (41, 42, zt_imul), (42, 43, zt_iload 2), (43, 44, zt_iadd), (44, 45, zt_ic 4), (45, 46, zt_imul), (46, 47, zt_iload 3), (47, 48, zt_iadd), (48, 49, zt_iald), (49, 52, zt_goto 53), (52, 53, zt_ic (-1)), (53, 54, zt_iret)]
theorem TX6_number_ok : ∀ i ∈ TX6_number, Ent mX6_number i := by
  refine List.forall_mem_cons.mpr ⟨ze_iload_n (k := 2) (by decide +kernel) rfl, ?_⟩
  refine List.forall_mem_cons.mpr ⟨ze_if_lt (off := 25) (by decide +kernel) (by decide), ?_⟩
  refine List.forall_mem_cons.mpr ⟨ze_iload_n (k := 2) (by decide +kernel) rfl, ?_⟩
  refine List.forall_mem_cons.mpr ⟨ze_aload_n (k := 0) (by decide +kernel) rfl, ?_⟩
  refine List.forall_mem_cons.mpr ⟨ze_iload_n (k := 1) (by decide +kernel) rfl, ?_⟩
  refine List.forall_mem_cons.mpr ⟨ze_callVF (idx := 26) (by decide +kernel) ml_X6_26 mv_X6_sizeOf rfl, ?_⟩
  refine List.forall_mem_cons.mpr ⟨ze_icmp_ge (off := 16) (by decide +kernel) (by decide), ?_⟩
  refine List.forall_mem_cons.mpr ⟨ze_iload_n (k := 3) (by decide +kernel) rfl, ?_⟩
  refine List.forall_mem_cons.mpr ⟨ze_if_lt (off := 12) (by decide +kernel) (by decide), ?_⟩
  refine List.forall_mem_cons.mpr ⟨ze_iload_n (k := 3) (by decide +kernel) rfl, ?_⟩
  refine List.forall_mem_cons.mpr ⟨ze_iconst (n := 4) (by decide +kernel) (by decide), ?_⟩
  refine List.forall_mem_cons.mpr ⟨ze_icmp_ge (off := 7) (by decide +kernel) (by decide), ?_⟩
  refine List.forall_mem_cons.mpr ⟨ze_iconst (n := 1) (by decide +kernel) (by decide), ?_⟩
  refine List.forall_mem_cons.mpr ⟨ze_goto (off := 4) (by decide +kernel) (by decide), ?_⟩
  refine List.forall_mem_cons.mpr ⟨ze_iconst (n := 0) (by decide +kernel) (by decide), ?_⟩
  refine List.forall_mem_cons.mpr ⟨ze_istoreF (by decide +kernel) (by decide), ?_⟩
  refine List.forall_mem_cons.mpr ⟨ze_iload (by decide +kernel), ?_⟩
  refine List.forall_mem_cons.mpr ⟨ze_if_eq (off := 21) (by decide +kernel) (by decide), ?_⟩
  refine List.forall_mem_cons.mpr ⟨ze_aload_n (k := 0) (by decide +kernel) rfl, ?_⟩
  refine List.forall_mem_cons.mpr ⟨ze_getL (by decide +kernel) fl_X6_11 rfl (by decide), ?_⟩
  refine List.forall_mem_cons.mpr ⟨ze_iload_n (k := 1) (by decide +kernel) rfl, ?_⟩
  refine List.forall_mem_cons.mpr ⟨ze_bipush (n := 16) (by decide +kernel) (by decide), ?_⟩
  refine List.forall_mem_cons.mpr ⟨ze_imul (by decide +kernel), ?_⟩
  refine List.forall_mem_cons.mpr ⟨ze_iload_n (k := 2) (by decide +kernel) rfl, ?_⟩
  refine List.forall_mem_cons.mpr ⟨ze_iadd (by decide +kernel), ?_⟩
  refine List.forall_mem_cons.mpr ⟨ze_iconst (n := 4) (by decide +kernel) (by decide), ?_⟩
  refine List.forall_mem_cons.mpr ⟨ze_imul (by decide +kernel), ?_⟩
  refine List.forall_mem_cons.mpr ⟨ze_iload_n (k := 3) (by decide +kernel) rfl, ?_⟩
  refine List.forall_mem_cons.mpr ⟨ze_iadd (by decide +kernel), ?_⟩
  refine List.forall_mem_cons.mpr ⟨ze_iald (by decide +kernel), ?_⟩
  refine List.forall_mem_cons.mpr ⟨ze_goto (off := 4) (by decide +kernel) (by decide), ?_⟩
  refine List.forall_mem_cons.mpr ⟨ze_iconst (n := -1) (by decide +kernel) (by decide), ?_⟩
  refine List.forall_mem_cons.mpr ⟨ze_iret (by decide +kernel) rfl, ?_⟩
  exact fun _ h => absurd h List.not_mem_nil
theorem vX6_number {l : Launch} {G : GT} {d : Nat} {av : List Value} {Q : Po} {σ : Mm} (cs : List (Nat × List Nat)) (k : Nat) (h : vc l G d mX6_number TX6_number Q cs k TX6_number (lv_args 0 av) [] σ) (hlen : (lg_sl av).length ≤ mX6_number.2.2.1 := by exact Nat.le_of_ble_eq_true rfl) : MW l G d mX6_number av σ Q := mw_vc TX6_number_ok mc_X6_number rfl hlen cs k rfl h
theorem wX6_number {l : Launch} {G : GT} {d : Nat} {Q : Po} {pc : Nat} {lv : Lv} {st : List Value} {σ : Mm} (cs : List (Nat × List Nat)) (k : Nat) (h : vc l G d mX6_number TX6_number Q cs k (drp TX6_number pc) lv st σ) (hpc : hdp (drp TX6_number pc) = pc := by rfl) : Wp l G d mX6_number pc lv st σ Q := wp_vc TX6_number_ok cs k hpc h
def TX6_take : List In := [(0, 1, zt_aload 0), (1, 4, zt_getI 14 2), (4, 5, zt_ic 4), (5, 8, zt_icmp_ge 14), (8, 9, zt_iload 2), (9, 11, zt_ic 16), (11, 14, zt_icmp_le 16), (14, 15, zt_ic (-1)), (15, 16, zt_iret), (16, 17, zt_aload 1), (17, 18, zt_ic 0), (18, 19, zt_aload 0), (19, 22, zt_getL 14 0), (22, 23, zt_aload 0), (23, 26, zt_getI 14 2), (26, 28, zt_ic 16), (28, 29, zt_imul), (29, 30, zt_ic 4), (30, 31, zt_imul), (31, 32, zt_iload 2), (32, 33, zt_ic 4), (33, 34, zt_imul), (34, 37, zt_copyI), (37, 38, zt_aload 0), (38, 41, zt_getL 14 1), (41, 42, zt_aload 0), (42, 45, zt_getI 14 2), (45, 46, zt_iload 2), (46, 47, zt_iastoreF), (47, 48, zt_aload 0), (48, 49, zt_dup), (49, 52, zt_getI 14 2), (52, 53, zt_ic 1), (53, 54, zt_iadd), (54, 57, zt_putI 14 2), (57, 58, zt_aload 0), (58, 61, zt_getI 14 2), (61, 62, zt_ic 1), (62, 63, zt_isub), (63, 64, zt_iret)]
theorem TX6_take_ok : ∀ i ∈ TX6_take, Ent mX6_take i := by
  refine List.forall_mem_cons.mpr ⟨ze_aload_n (k := 0) (by decide +kernel) rfl, ?_⟩
  refine List.forall_mem_cons.mpr ⟨ze_getI (by decide +kernel) fl_X6_18 rfl, ?_⟩
  refine List.forall_mem_cons.mpr ⟨ze_iconst (n := 4) (by decide +kernel) (by decide), ?_⟩
  refine List.forall_mem_cons.mpr ⟨ze_icmp_ge (off := 9) (by decide +kernel) (by decide), ?_⟩
  refine List.forall_mem_cons.mpr ⟨ze_iload_n (k := 2) (by decide +kernel) rfl, ?_⟩
  refine List.forall_mem_cons.mpr ⟨ze_bipush (n := 16) (by decide +kernel) (by decide), ?_⟩
  refine List.forall_mem_cons.mpr ⟨ze_icmp_le (off := 5) (by decide +kernel) (by decide), ?_⟩
  refine List.forall_mem_cons.mpr ⟨ze_iconst (n := -1) (by decide +kernel) (by decide), ?_⟩
  refine List.forall_mem_cons.mpr ⟨ze_iret (by decide +kernel) rfl, ?_⟩
  refine List.forall_mem_cons.mpr ⟨ze_aload_n (k := 1) (by decide +kernel) rfl, ?_⟩
  refine List.forall_mem_cons.mpr ⟨ze_iconst (n := 0) (by decide +kernel) (by decide), ?_⟩
  refine List.forall_mem_cons.mpr ⟨ze_aload_n (k := 0) (by decide +kernel) rfl, ?_⟩
  refine List.forall_mem_cons.mpr ⟨ze_getL (by decide +kernel) fl_X6_11 rfl (by decide), ?_⟩
  refine List.forall_mem_cons.mpr ⟨ze_aload_n (k := 0) (by decide +kernel) rfl, ?_⟩
  refine List.forall_mem_cons.mpr ⟨ze_getI (by decide +kernel) fl_X6_18 rfl, ?_⟩
  refine List.forall_mem_cons.mpr ⟨ze_bipush (n := 16) (by decide +kernel) (by decide), ?_⟩
  refine List.forall_mem_cons.mpr ⟨ze_imul (by decide +kernel), ?_⟩
  refine List.forall_mem_cons.mpr ⟨ze_iconst (n := 4) (by decide +kernel) (by decide), ?_⟩
  refine List.forall_mem_cons.mpr ⟨ze_imul (by decide +kernel), ?_⟩
  refine List.forall_mem_cons.mpr ⟨ze_iload_n (k := 2) (by decide +kernel) rfl, ?_⟩
  refine List.forall_mem_cons.mpr ⟨ze_iconst (n := 4) (by decide +kernel) (by decide), ?_⟩
  refine List.forall_mem_cons.mpr ⟨ze_imul (by decide +kernel), ?_⟩
  refine List.forall_mem_cons.mpr ⟨ze_copyI (idx := 30) (by decide +kernel) ml_X6_30 jcp.1 jcp.2.1 jcp.2.2, ?_⟩
  refine List.forall_mem_cons.mpr ⟨ze_aload_n (k := 0) (by decide +kernel) rfl, ?_⟩
  refine List.forall_mem_cons.mpr ⟨ze_getL (by decide +kernel) fl_X6_15 rfl (by decide), ?_⟩
  refine List.forall_mem_cons.mpr ⟨ze_aload_n (k := 0) (by decide +kernel) rfl, ?_⟩
  refine List.forall_mem_cons.mpr ⟨ze_getI (by decide +kernel) fl_X6_18 rfl, ?_⟩
  refine List.forall_mem_cons.mpr ⟨ze_iload_n (k := 2) (by decide +kernel) rfl, ?_⟩
  refine List.forall_mem_cons.mpr ⟨ze_iastoreF (by decide +kernel), ?_⟩
  refine List.forall_mem_cons.mpr ⟨ze_aload_n (k := 0) (by decide +kernel) rfl, ?_⟩
  refine List.forall_mem_cons.mpr ⟨ze_dup (by decide +kernel), ?_⟩
  refine List.forall_mem_cons.mpr ⟨ze_getI (by decide +kernel) fl_X6_18 rfl, ?_⟩
  refine List.forall_mem_cons.mpr ⟨ze_iconst (n := 1) (by decide +kernel) (by decide), ?_⟩
  refine List.forall_mem_cons.mpr ⟨ze_iadd (by decide +kernel), ?_⟩
  refine List.forall_mem_cons.mpr ⟨ze_putI (by decide +kernel) fl_X6_18 ⟨_, _, _, rfl, rfl, by decide +kernel⟩ rfl, ?_⟩
  refine List.forall_mem_cons.mpr ⟨ze_aload_n (k := 0) (by decide +kernel) rfl, ?_⟩
  refine List.forall_mem_cons.mpr ⟨ze_getI (by decide +kernel) fl_X6_18 rfl, ?_⟩
  refine List.forall_mem_cons.mpr ⟨ze_iconst (n := 1) (by decide +kernel) (by decide), ?_⟩
  refine List.forall_mem_cons.mpr ⟨ze_isub (by decide +kernel), ?_⟩
  refine List.forall_mem_cons.mpr ⟨ze_iret (by decide +kernel) rfl, ?_⟩
  exact fun _ h => absurd h List.not_mem_nil
theorem vX6_take {l : Launch} {G : GT} {d : Nat} {av : List Value} {Q : Po} {σ : Mm} (cs : List (Nat × List Nat)) (k : Nat) (h : vc l G d mX6_take TX6_take Q cs k TX6_take (lv_args 0 av) [] σ) (hlen : (lg_sl av).length ≤ mX6_take.2.2.1 := by exact Nat.le_of_ble_eq_true rfl) : MW l G d mX6_take av σ Q := mw_vc TX6_take_ok mc_X6_take rfl hlen cs k rfl h
theorem wX6_take {l : Launch} {G : GT} {d : Nat} {Q : Po} {pc : Nat} {lv : Lv} {st : List Value} {σ : Mm} (cs : List (Nat × List Nat)) (k : Nat) (h : vc l G d mX6_take TX6_take Q cs k (drp TX6_take pc) lv st σ) (hpc : hdp (drp TX6_take pc) = pc := by rfl) : Wp l G d mX6_take pc lv st σ Q := wp_vc TX6_take_ok cs k hpc h
def TX8_nodeOf : List In := [(0, 1, zt_iload 0), (1, 2, zt_iload 0), (2, 3, zt_ic 1), (3, 4, zt_iadd), (4, 5, zt_imul), (5, 6, zt_ic 2), (6, 7, zt_idiv), (7, 8, zt_iload 1), (8, 9, zt_iadd), (9, 10, zt_iret)]
theorem TX8_nodeOf_ok : ∀ i ∈ TX8_nodeOf, Ent mX8_nodeOf i := by
  refine List.forall_mem_cons.mpr ⟨ze_iload_n (k := 0) (by decide +kernel) rfl, ?_⟩
  refine List.forall_mem_cons.mpr ⟨ze_iload_n (k := 0) (by decide +kernel) rfl, ?_⟩
  refine List.forall_mem_cons.mpr ⟨ze_iconst (n := 1) (by decide +kernel) (by decide), ?_⟩
  refine List.forall_mem_cons.mpr ⟨ze_iadd (by decide +kernel), ?_⟩
  refine List.forall_mem_cons.mpr ⟨ze_imul (by decide +kernel), ?_⟩
  refine List.forall_mem_cons.mpr ⟨ze_iconst (n := 2) (by decide +kernel) (by decide), ?_⟩
  refine List.forall_mem_cons.mpr ⟨ze_idiv (by decide +kernel), ?_⟩
  refine List.forall_mem_cons.mpr ⟨ze_iload_n (k := 1) (by decide +kernel) rfl, ?_⟩
  refine List.forall_mem_cons.mpr ⟨ze_iadd (by decide +kernel), ?_⟩
  refine List.forall_mem_cons.mpr ⟨ze_iret (by decide +kernel) rfl, ?_⟩
  exact fun _ h => absurd h List.not_mem_nil
theorem vX8_nodeOf {l : Launch} {G : GT} {d : Nat} {av : List Value} {Q : Po} {σ : Mm} (cs : List (Nat × List Nat)) (k : Nat) (h : vc l G d mX8_nodeOf TX8_nodeOf Q cs k TX8_nodeOf (lv_args 0 av) [] σ) (hlen : (lg_sl av).length ≤ mX8_nodeOf.2.2.1 := by exact Nat.le_of_ble_eq_true rfl) : MW l G d mX8_nodeOf av σ Q := mw_vc TX8_nodeOf_ok mc_X8_nodeOf rfl hlen cs k rfl h
theorem wX8_nodeOf {l : Launch} {G : GT} {d : Nat} {Q : Po} {pc : Nat} {lv : Lv} {st : List Value} {σ : Mm} (cs : List (Nat × List Nat)) (k : Nat) (h : vc l G d mX8_nodeOf TX8_nodeOf Q cs k (drp TX8_nodeOf pc) lv st σ) (hpc : hdp (drp TX8_nodeOf pc) = pc := by rfl) : Wp l G d mX8_nodeOf pc lv st σ Q := wp_vc TX8_nodeOf_ok cs k hpc h
def TX8_bounded : List In := [(0, 1, zt_ic 0), (1, 4, zt_ic 999), (4, 5, zt_iload 0), (5, 8, zt_min), (8, 11, zt_max), (11, 12, zt_iret)]
theorem TX8_bounded_ok : ∀ i ∈ TX8_bounded, Ent mX8_bounded i := by
  refine List.forall_mem_cons.mpr ⟨ze_iconst (n := 0) (by decide +kernel) (by decide), ?_⟩
  refine List.forall_mem_cons.mpr ⟨ze_sipush (n := 999) (by decide +kernel) (by decide), ?_⟩
  refine List.forall_mem_cons.mpr ⟨ze_iload_n (k := 0) (by decide +kernel) rfl, ?_⟩
  refine List.forall_mem_cons.mpr ⟨ze_min (idx := 53) (by decide +kernel) ml_X8_53 jmn.1 jmn.2.1 jmn.2.2, ?_⟩
  refine List.forall_mem_cons.mpr ⟨ze_max (idx := 59) (by decide +kernel) ml_X8_59 jmx.1 jmx.2.1 jmx.2.2, ?_⟩
  refine List.forall_mem_cons.mpr ⟨ze_iret (by decide +kernel) rfl, ?_⟩
  exact fun _ h => absurd h List.not_mem_nil
theorem vX8_bounded {l : Launch} {G : GT} {d : Nat} {av : List Value} {Q : Po} {σ : Mm} (cs : List (Nat × List Nat)) (k : Nat) (h : vc l G d mX8_bounded TX8_bounded Q cs k TX8_bounded (lv_args 0 av) [] σ) (hlen : (lg_sl av).length ≤ mX8_bounded.2.2.1 := by exact Nat.le_of_ble_eq_true rfl) : MW l G d mX8_bounded av σ Q := mw_vc TX8_bounded_ok mc_X8_bounded rfl hlen cs k rfl h
theorem wX8_bounded {l : Launch} {G : GT} {d : Nat} {Q : Po} {pc : Nat} {lv : Lv} {st : List Value} {σ : Mm} (cs : List (Nat × List Nat)) (k : Nat) (h : vc l G d mX8_bounded TX8_bounded Q cs k (drp TX8_bounded pc) lv st σ) (hpc : hdp (drp TX8_bounded pc) = pc := by rfl) : Wp l G d mX8_bounded pc lv st σ Q := wp_vc TX8_bounded_ok cs k hpc h
def TX8_forget : List In := [(0, 1, zt_aload 0), (1, 2, zt_ic 1), (2, 5, zt_putZ 16 11), (5, 6, zt_vret)]
theorem TX8_forget_ok : ∀ i ∈ TX8_forget, Ent mX8_forget i := by
  refine List.forall_mem_cons.mpr ⟨ze_aload_n (k := 0) (by decide +kernel) rfl, ?_⟩
  refine List.forall_mem_cons.mpr ⟨ze_iconst (n := 1) (by decide +kernel) (by decide), ?_⟩
  refine List.forall_mem_cons.mpr ⟨ze_putZ (by decide +kernel) fl_X8_62 ⟨_, _, _, rfl, rfl, by decide +kernel⟩ rfl, ?_⟩
  refine List.forall_mem_cons.mpr ⟨ze_vret (by decide +kernel) rfl, ?_⟩
  exact fun _ h => absurd h List.not_mem_nil
theorem vX8_forget {l : Launch} {G : GT} {d : Nat} {av : List Value} {Q : Po} {σ : Mm} (cs : List (Nat × List Nat)) (k : Nat) (h : vc l G d mX8_forget TX8_forget Q cs k TX8_forget (lv_args 0 av) [] σ) (hlen : (lg_sl av).length ≤ mX8_forget.2.2.1 := by exact Nat.le_of_ble_eq_true rfl) : MW l G d mX8_forget av σ Q := mw_vc TX8_forget_ok mc_X8_forget rfl hlen cs k rfl h
theorem wX8_forget {l : Launch} {G : GT} {d : Nat} {Q : Po} {pc : Nat} {lv : Lv} {st : List Value} {σ : Mm} (cs : List (Nat × List Nat)) (k : Nat) (h : vc l G d mX8_forget TX8_forget Q cs k (drp TX8_forget pc) lv st σ) (hpc : hdp (drp TX8_forget pc) = pc := by rfl) : Wp l G d mX8_forget pc lv st σ Q := wp_vc TX8_forget_ok cs k hpc h
def TX8_look : List In := [(0, 1, zt_aload 0), (1, 4, zt_getI 16 11), (4, 5, zt_istoreF 3), (5, 6, zt_aload 0), (6, 7, zt_ic 0), (7, 10, zt_putZ 16 11), (10, 12, zt_ic 25), (12, 14, zt_istoreF 4), (14, 16, zt_iload 4), (16, 18, zt_ic 103), (18, 21, zt_icmp_ge 67), (21, 22, zt_aload 1), (22, 24, zt_iload 4), (24, 25, zt_iald), (25, 26, zt_iload 2), (26, 27, zt_iadd), (27, 30, zt_callSF mX8_bounded 1), (30, 32, zt_istoreF 5), (32, 33, zt_iload 3), (33, 34, zt_aload 0), (34, 37, zt_getL 16 7), (37, 39, zt_iload 4), (39, 40, zt_iald), (40, 42, zt_iload 5), (42, 45, zt_icmp_eq 49), (45, 46, zt_ic 1), (46, 49, zt_goto 50), (49, 50, zt_ic 0), (50, 51, zt_ior), (51, 52, zt_istoreF 3), (52, 53, zt_aload 0), (53, 56, zt_getL 16 7), (56, 58, zt_iload 4), (58, 60, zt_iload 5), (60, 61, zt_iastoreF), (61, 64, zt_iincF 4 1), (64, 67, zt_goto 14), (67, 68, zt_aload 0), (68, 69, zt_aload 1), (69, 71, zt_ic 12), (71, 73, zt_ic 25), (73, 76, zt_callVF mX8_takesOver 3 16), (76, 79, zt_if_ne 83), (79, 80, zt_iload 3), (80, 83, zt_if_eq 89), (83, 84, zt_ic 1), (84, 85, zt_istoreF 3), (85, 86, zt_aload 0), (86, 89, zt_callVF mX8_reckonYears 0 16), (89, 90, zt_iload 3), (90, 93, zt_if_eq 108), (93, 94, zt_aload 0), (94, 97, zt_getL 16 10), (97, 98, zt_ic 0), (98, 99, zt_ic 0), (99, 100, zt_iastoreF), (100, 101, zt_aload 0), (101, 104, zt_getL 16 4), (104, 105, zt_ic 0), (105, 108, zt_putZ 15 7), (108, 109, zt_aload 0), (109, 110, zt_aload 1), (110, 112, zt_ic 103), (112, 114, zt_ic 115), (114, 117, zt_callVF mX8_takesOver 3 16), (117, 120, zt_if_ne 124), (120, 121, zt_iload 3), (121, 124, zt_if_eq 139), (124, 125, zt_aload 0), (125, 128, zt_getL 16 10), (128, 129, zt_ic 1), (129, 130, zt_ic 0), (130, 131, zt_iastoreF), (131, 132, zt_aload 0), (132, 135, zt_getL 16 5), (135, 136, zt_ic 0), (136, 139, zt_putZ 15 7), (139, 140, zt_vret)]
theorem TX8_look_ok : ∀ i ∈ TX8_look, Ent mX8_look i := by
  refine List.forall_mem_cons.mpr ⟨ze_aload_n (k := 0) (by decide +kernel) rfl, ?_⟩
  refine List.forall_mem_cons.mpr ⟨ze_getI (by decide +kernel) fl_X8_62 rfl, ?_⟩
  refine List.forall_mem_cons.mpr ⟨ze_istoreF_n (k := 3) (by decide +kernel) rfl (by decide), ?_⟩
  refine List.forall_mem_cons.mpr ⟨ze_aload_n (k := 0) (by decide +kernel) rfl, ?_⟩
  refine List.forall_mem_cons.mpr ⟨ze_iconst (n := 0) (by decide +kernel) (by decide), ?_⟩
  refine List.forall_mem_cons.mpr ⟨ze_putZ (by decide +kernel) fl_X8_62 ⟨_, _, _, rfl, rfl, by decide +kernel⟩ rfl, ?_⟩
  refine List.forall_mem_cons.mpr ⟨ze_bipush (n := 25) (by decide +kernel) (by decide), ?_⟩
  refine List.forall_mem_cons.mpr ⟨ze_istoreF (by decide +kernel) (by decide), ?_⟩
  refine List.forall_mem_cons.mpr ⟨ze_iload (by decide +kernel), ?_⟩
  refine List.forall_mem_cons.mpr ⟨ze_bipush (n := 103) (by decide +kernel) (by decide), ?_⟩
  refine List.forall_mem_cons.mpr ⟨ze_icmp_ge (off := 49) (by decide +kernel) (by decide), ?_⟩
  refine List.forall_mem_cons.mpr ⟨ze_aload_n (k := 1) (by decide +kernel) rfl, ?_⟩
  refine List.forall_mem_cons.mpr ⟨ze_iload (by decide +kernel), ?_⟩
  refine List.forall_mem_cons.mpr ⟨ze_iald (by decide +kernel), ?_⟩
  refine List.forall_mem_cons.mpr ⟨ze_iload_n (k := 2) (by decide +kernel) rfl, ?_⟩
  refine List.forall_mem_cons.mpr ⟨ze_iadd (by decide +kernel), ?_⟩
  refine List.forall_mem_cons.mpr ⟨ze_callSF (idx := 66) (by decide +kernel) ml_X8_66 ms_X8_bounded, ?_⟩
  refine List.forall_mem_cons.mpr ⟨ze_istoreF (by decide +kernel) (by decide), ?_⟩
  refine List.forall_mem_cons.mpr ⟨ze_iload_n (k := 3) (by decide +kernel) rfl, ?_⟩
  refine List.forall_mem_cons.mpr ⟨ze_aload_n (k := 0) (by decide +kernel) rfl, ?_⟩
  refine List.forall_mem_cons.mpr ⟨ze_getL (by decide +kernel) fl_X8_36 rfl (by decide), ?_⟩
  refine List.forall_mem_cons.mpr ⟨ze_iload (by decide +kernel), ?_⟩
  refine List.forall_mem_cons.mpr ⟨ze_iald (by decide +kernel), ?_⟩
  refine List.forall_mem_cons.mpr ⟨ze_iload (by decide +kernel), ?_⟩
  refine List.forall_mem_cons.mpr ⟨ze_icmp_eq (off := 7) (by decide +kernel) (by decide), ?_⟩
  refine List.forall_mem_cons.mpr ⟨ze_iconst (n := 1) (by decide +kernel) (by decide), ?_⟩
  refine List.forall_mem_cons.mpr ⟨ze_goto (off := 4) (by decide +kernel) (by decide), ?_⟩
  refine List.forall_mem_cons.mpr ⟨ze_iconst (n := 0) (by decide +kernel) (by decide), ?_⟩
  refine List.forall_mem_cons.mpr ⟨ze_ior (by decide +kernel), ?_⟩
  refine List.forall_mem_cons.mpr ⟨ze_istoreF_n (k := 3) (by decide +kernel) rfl (by decide), ?_⟩
  refine List.forall_mem_cons.mpr ⟨ze_aload_n (k := 0) (by decide +kernel) rfl, ?_⟩
  refine List.forall_mem_cons.mpr ⟨ze_getL (by decide +kernel) fl_X8_36 rfl (by decide), ?_⟩
  refine List.forall_mem_cons.mpr ⟨ze_iload (by decide +kernel), ?_⟩
  refine List.forall_mem_cons.mpr ⟨ze_iload (by decide +kernel), ?_⟩
  refine List.forall_mem_cons.mpr ⟨ze_iastoreF (by decide +kernel), ?_⟩
  refine List.forall_mem_cons.mpr ⟨ze_iincF (n := 1) (by decide +kernel) (by decide) (by decide), ?_⟩
  refine List.forall_mem_cons.mpr ⟨ze_goto (off := -50) (by decide +kernel) (by decide), ?_⟩
  refine List.forall_mem_cons.mpr ⟨ze_aload_n (k := 0) (by decide +kernel) rfl, ?_⟩
  refine List.forall_mem_cons.mpr ⟨ze_aload_n (k := 1) (by decide +kernel) rfl, ?_⟩
  refine List.forall_mem_cons.mpr ⟨ze_bipush (n := 12) (by decide +kernel) (by decide), ?_⟩
  refine List.forall_mem_cons.mpr ⟨ze_bipush (n := 25) (by decide +kernel) (by decide), ?_⟩
  refine List.forall_mem_cons.mpr ⟨ze_callVF (idx := 70) (by decide +kernel) ml_X8_70 mv_X8_takesOver rfl, ?_⟩
  refine List.forall_mem_cons.mpr ⟨ze_if_ne (off := 7) (by decide +kernel) (by decide), ?_⟩
  refine List.forall_mem_cons.mpr ⟨ze_iload_n (k := 3) (by decide +kernel) rfl, ?_⟩
  refine List.forall_mem_cons.mpr ⟨ze_if_eq (off := 9) (by decide +kernel) (by decide), ?_⟩
  refine List.forall_mem_cons.mpr ⟨ze_iconst (n := 1) (by decide +kernel) (by decide), ?_⟩
  refine List.forall_mem_cons.mpr ⟨ze_istoreF_n (k := 3) (by decide +kernel) rfl (by decide), ?_⟩
  refine List.forall_mem_cons.mpr ⟨ze_aload_n (k := 0) (by decide +kernel) rfl, ?_⟩
  refine List.forall_mem_cons.mpr ⟨ze_callVF (idx := 74) (by decide +kernel) ml_X8_74 mv_X8_reckonYears rfl, ?_⟩
  refine List.forall_mem_cons.mpr ⟨ze_iload_n (k := 3) (by decide +kernel) rfl, ?_⟩
  refine List.forall_mem_cons.mpr ⟨ze_if_eq (off := 18) (by decide +kernel) (by decide), ?_⟩
  refine List.forall_mem_cons.mpr ⟨ze_aload_n (k := 0) (by decide +kernel) rfl, ?_⟩
  refine List.forall_mem_cons.mpr ⟨ze_getL (by decide +kernel) fl_X8_47 rfl (by decide), ?_⟩
  refine List.forall_mem_cons.mpr ⟨ze_iconst (n := 0) (by decide +kernel) (by decide), ?_⟩
  refine List.forall_mem_cons.mpr ⟨ze_iconst (n := 0) (by decide +kernel) (by decide), ?_⟩
  refine List.forall_mem_cons.mpr ⟨ze_iastoreF (by decide +kernel), ?_⟩
  refine List.forall_mem_cons.mpr ⟨ze_aload_n (k := 0) (by decide +kernel) rfl, ?_⟩
  refine List.forall_mem_cons.mpr ⟨ze_getL (by decide +kernel) fl_X8_28 rfl (by decide), ?_⟩
  refine List.forall_mem_cons.mpr ⟨ze_iconst (n := 0) (by decide +kernel) (by decide), ?_⟩
  refine List.forall_mem_cons.mpr ⟨ze_putZ (by decide +kernel) fl_X8_77 ⟨_, _, _, rfl, rfl, by decide +kernel⟩ rfl, ?_⟩
  refine List.forall_mem_cons.mpr ⟨ze_aload_n (k := 0) (by decide +kernel) rfl, ?_⟩
  refine List.forall_mem_cons.mpr ⟨ze_aload_n (k := 1) (by decide +kernel) rfl, ?_⟩
  refine List.forall_mem_cons.mpr ⟨ze_bipush (n := 103) (by decide +kernel) (by decide), ?_⟩
  refine List.forall_mem_cons.mpr ⟨ze_bipush (n := 115) (by decide +kernel) (by decide), ?_⟩
  refine List.forall_mem_cons.mpr ⟨ze_callVF (idx := 70) (by decide +kernel) ml_X8_70 mv_X8_takesOver rfl, ?_⟩
  refine List.forall_mem_cons.mpr ⟨ze_if_ne (off := 7) (by decide +kernel) (by decide), ?_⟩
  refine List.forall_mem_cons.mpr ⟨ze_iload_n (k := 3) (by decide +kernel) rfl, ?_⟩
  refine List.forall_mem_cons.mpr ⟨ze_if_eq (off := 18) (by decide +kernel) (by decide), ?_⟩
  refine List.forall_mem_cons.mpr ⟨ze_aload_n (k := 0) (by decide +kernel) rfl, ?_⟩
  refine List.forall_mem_cons.mpr ⟨ze_getL (by decide +kernel) fl_X8_47 rfl (by decide), ?_⟩
  refine List.forall_mem_cons.mpr ⟨ze_iconst (n := 1) (by decide +kernel) (by decide), ?_⟩
  refine List.forall_mem_cons.mpr ⟨ze_iconst (n := 0) (by decide +kernel) (by decide), ?_⟩
  refine List.forall_mem_cons.mpr ⟨ze_iastoreF (by decide +kernel), ?_⟩
  refine List.forall_mem_cons.mpr ⟨ze_aload_n (k := 0) (by decide +kernel) rfl, ?_⟩
  refine List.forall_mem_cons.mpr ⟨ze_getL (by decide +kernel) fl_X8_31 rfl (by decide), ?_⟩
  refine List.forall_mem_cons.mpr ⟨ze_iconst (n := 0) (by decide +kernel) (by decide), ?_⟩
  refine List.forall_mem_cons.mpr ⟨ze_putZ (by decide +kernel) fl_X8_77 ⟨_, _, _, rfl, rfl, by decide +kernel⟩ rfl, ?_⟩
  refine List.forall_mem_cons.mpr ⟨ze_vret (by decide +kernel) rfl, ?_⟩
  exact fun _ h => absurd h List.not_mem_nil
theorem vX8_look {l : Launch} {G : GT} {d : Nat} {av : List Value} {Q : Po} {σ : Mm} (cs : List (Nat × List Nat)) (k : Nat) (h : vc l G d mX8_look TX8_look Q cs k TX8_look (lv_args 0 av) [] σ) (hlen : (lg_sl av).length ≤ mX8_look.2.2.1 := by exact Nat.le_of_ble_eq_true rfl) : MW l G d mX8_look av σ Q := mw_vc TX8_look_ok mc_X8_look rfl hlen cs k rfl h
theorem wX8_look {l : Launch} {G : GT} {d : Nat} {Q : Po} {pc : Nat} {lv : Lv} {st : List Value} {σ : Mm} (cs : List (Nat × List Nat)) (k : Nat) (h : vc l G d mX8_look TX8_look Q cs k (drp TX8_look pc) lv st σ) (hpc : hdp (drp TX8_look pc) = pc := by rfl) : Wp l G d mX8_look pc lv st σ Q := wp_vc TX8_look_ok cs k hpc h
def TX8_takesOver : List In := [(0, 1, zt_ic 0), (1, 3, zt_istoreF 4), (3, 4, zt_iload 2), (4, 6, zt_istoreF 5), (6, 8, zt_iload 5), (8, 9, zt_iload 3), (9, 12, zt_icmp_ge 63), (12, 14, zt_iload 5), (14, 15, zt_aload 0), (15, 18, zt_getL 16 7), (18, 19, zt_alen), (19, 22, zt_icmp_ge 63), (22, 24, zt_iload 4), (24, 25, zt_aload 0), (25, 28, zt_getL 16 7), (28, 30, zt_iload 5), (30, 31, zt_iald), (31, 32, zt_aload 1), (32, 34, zt_iload 5), (34, 35, zt_iald), (35, 38, zt_icmp_eq 42), (38, 39, zt_ic 1), (39, 42, zt_goto 43), (42, 43, zt_ic 0), (43, 44, zt_ior), (44, 46, zt_istoreF 4), (46, 47, zt_aload 0), (47, 50, zt_getL 16 7), (50, 52, zt_iload 5), (52, 53, zt_aload 1), (53, 55, zt_iload 5), (55, 56, zt_iald), (56, 57, zt_iastoreF), (57, 60, zt_iincF 5 1), (60, 63, zt_goto 6), (63, 65, zt_iload 4), (65, 66, zt_zret)]
theorem TX8_takesOver_ok : ∀ i ∈ TX8_takesOver, Ent mX8_takesOver i := by
  refine List.forall_mem_cons.mpr ⟨ze_iconst (n := 0) (by decide +kernel) (by decide), ?_⟩
  refine List.forall_mem_cons.mpr ⟨ze_istoreF (by decide +kernel) (by decide), ?_⟩
  refine List.forall_mem_cons.mpr ⟨ze_iload_n (k := 2) (by decide +kernel) rfl, ?_⟩
  refine List.forall_mem_cons.mpr ⟨ze_istoreF (by decide +kernel) (by decide), ?_⟩
  refine List.forall_mem_cons.mpr ⟨ze_iload (by decide +kernel), ?_⟩
  refine List.forall_mem_cons.mpr ⟨ze_iload_n (k := 3) (by decide +kernel) rfl, ?_⟩
  refine List.forall_mem_cons.mpr ⟨ze_icmp_ge (off := 54) (by decide +kernel) (by decide), ?_⟩
  refine List.forall_mem_cons.mpr ⟨ze_iload (by decide +kernel), ?_⟩
  refine List.forall_mem_cons.mpr ⟨ze_aload_n (k := 0) (by decide +kernel) rfl, ?_⟩
  refine List.forall_mem_cons.mpr ⟨ze_getL (by decide +kernel) fl_X8_36 rfl (by decide), ?_⟩
  refine List.forall_mem_cons.mpr ⟨ze_alen (by decide +kernel), ?_⟩
  refine List.forall_mem_cons.mpr ⟨ze_icmp_ge (off := 44) (by decide +kernel) (by decide), ?_⟩
  refine List.forall_mem_cons.mpr ⟨ze_iload (by decide +kernel), ?_⟩
  refine List.forall_mem_cons.mpr ⟨ze_aload_n (k := 0) (by decide +kernel) rfl, ?_⟩
  refine List.forall_mem_cons.mpr ⟨ze_getL (by decide +kernel) fl_X8_36 rfl (by decide), ?_⟩
  refine List.forall_mem_cons.mpr ⟨ze_iload (by decide +kernel), ?_⟩
  refine List.forall_mem_cons.mpr ⟨ze_iald (by decide +kernel), ?_⟩
  refine List.forall_mem_cons.mpr ⟨ze_aload_n (k := 1) (by decide +kernel) rfl, ?_⟩
  refine List.forall_mem_cons.mpr ⟨ze_iload (by decide +kernel), ?_⟩
  refine List.forall_mem_cons.mpr ⟨ze_iald (by decide +kernel), ?_⟩
  refine List.forall_mem_cons.mpr ⟨ze_icmp_eq (off := 7) (by decide +kernel) (by decide), ?_⟩
  refine List.forall_mem_cons.mpr ⟨ze_iconst (n := 1) (by decide +kernel) (by decide), ?_⟩
  refine List.forall_mem_cons.mpr ⟨ze_goto (off := 4) (by decide +kernel) (by decide), ?_⟩
  refine List.forall_mem_cons.mpr ⟨ze_iconst (n := 0) (by decide +kernel) (by decide), ?_⟩
  refine List.forall_mem_cons.mpr ⟨ze_ior (by decide +kernel), ?_⟩
  refine List.forall_mem_cons.mpr ⟨ze_istoreF (by decide +kernel) (by decide), ?_⟩
  refine List.forall_mem_cons.mpr ⟨ze_aload_n (k := 0) (by decide +kernel) rfl, ?_⟩
  refine List.forall_mem_cons.mpr ⟨ze_getL (by decide +kernel) fl_X8_36 rfl (by decide), ?_⟩
  refine List.forall_mem_cons.mpr ⟨ze_iload (by decide +kernel), ?_⟩
  refine List.forall_mem_cons.mpr ⟨ze_aload_n (k := 1) (by decide +kernel) rfl, ?_⟩
  refine List.forall_mem_cons.mpr ⟨ze_iload (by decide +kernel), ?_⟩
  refine List.forall_mem_cons.mpr ⟨ze_iald (by decide +kernel), ?_⟩
  refine List.forall_mem_cons.mpr ⟨ze_iastoreF (by decide +kernel), ?_⟩
  refine List.forall_mem_cons.mpr ⟨ze_iincF (n := 1) (by decide +kernel) (by decide) (by decide), ?_⟩
  refine List.forall_mem_cons.mpr ⟨ze_goto (off := -54) (by decide +kernel) (by decide), ?_⟩
  refine List.forall_mem_cons.mpr ⟨ze_iload (by decide +kernel), ?_⟩
  refine List.forall_mem_cons.mpr ⟨ze_zret (by decide +kernel) rfl, ?_⟩
  exact fun _ h => absurd h List.not_mem_nil
theorem vX8_takesOver {l : Launch} {G : GT} {d : Nat} {av : List Value} {Q : Po} {σ : Mm} (cs : List (Nat × List Nat)) (k : Nat) (h : vc l G d mX8_takesOver TX8_takesOver Q cs k TX8_takesOver (lv_args 0 av) [] σ) (hlen : (lg_sl av).length ≤ mX8_takesOver.2.2.1 := by exact Nat.le_of_ble_eq_true rfl) : MW l G d mX8_takesOver av σ Q := mw_vc TX8_takesOver_ok mc_X8_takesOver rfl hlen cs k rfl h
theorem wX8_takesOver {l : Launch} {G : GT} {d : Nat} {Q : Po} {pc : Nat} {lv : Lv} {st : List Value} {σ : Mm} (cs : List (Nat × List Nat)) (k : Nat) (h : vc l G d mX8_takesOver TX8_takesOver Q cs k (drp TX8_takesOver pc) lv st σ) (hpc : hdp (drp TX8_takesOver pc) = pc := by rfl) : Wp l G d mX8_takesOver pc lv st σ Q := wp_vc TX8_takesOver_ok cs k hpc h
def TX8_reckonYears : List In := [(0, 1, zt_aload 0), (1, 4, zt_getL 16 6), (4, 5, zt_ic 1), (5, 6, zt_iald), (6, 7, zt_istoreF 1), (7, 8, zt_aload 0), (8, 11, zt_getL 16 0), (11, 12, zt_ic 0), (12, 13, zt_aload 0), (13, 16, zt_getL 16 6), (16, 17, zt_ic 0), (17, 18, zt_iald), (18, 19, zt_iastoreF), (19, 20, zt_aload 0), (20, 23, zt_getL 16 2), (23, 24, zt_ic 0), (24, 25, zt_aload 0), (25, 26, zt_ic 0), (26, 29, zt_callVF mX8_priceOf 1 16), (29, 30, zt_iastoreF), (30, 31, zt_ic 1), (31, 32, zt_istoreF 2), (32, 33, zt_iload 2), (33, 34, zt_iload 1), (34, 37, zt_icmp_gt 123), (37, 38, zt_iload 2), (38, 40, zt_ic 12), (40, 43, zt_icmp_gt 123), (43, 44, zt_aload 0), (44, 47, zt_getL 16 1), (47, 48, zt_iload 2), (48, 49, zt_iload 2), (49, 50, zt_iload 1), (50, 53, zt_icmp_ne 64), (53, 54, zt_aload 0), (54, 57, zt_getL 16 0), (57, 58, zt_iload 2), (58, 59, zt_ic 1), (59, 60, zt_isub), (60, 61, zt_iald), (61, 64, zt_goto 84), (64, 65, zt_aload 0), (65, 68, zt_getL 16 0), (68, 69, zt_iload 2), (69, 70, zt_ic 1), (70, 71, zt_isub), (71, 72, zt_iald), (72, 73, zt_aload 0), (73, 76, zt_getL 16 7), (76, 78, zt_ic 12), (78, 79, zt_iload 2), (79, 80, zt_iadd), (80, 81, zt_iald), (81, 84, zt_min), (84, 85, zt_iastoreF), (85, 86, zt_aload 0), (86, 89, zt_getL 16 0), (89, 90, zt_iload 2), (90, 91, zt_aload 0), (91, 94, zt_getL 16 0), (94, 95, zt_iload 2), (95, 96, zt_ic 1), (96, 97, zt_isub), (97, 98, zt_iald), (98, 99, zt_aload 0), (99, 102, zt_getL 16 1), (102, 103, zt_iload 2), (103, 104, zt_iald), (104, 105, zt_isub), (105, 106, zt_iastoreF), (106, 107, zt_aload 0), (107, 110, zt_getL 16 2), (110, 111, zt_iload 2), (111, 112, zt_aload 0), (112, 113, zt_iload 2), (113, 116, zt_callVF mX8_priceOf 1 16), (116, 117, zt_iastoreF), (117, 120, zt_iincF 2 1), (120, 123, zt_goto 32), (123, 124, zt_vret)]
theorem TX8_reckonYears_ok : ∀ i ∈ TX8_reckonYears, Ent mX8_reckonYears i := by
  refine List.forall_mem_cons.mpr ⟨ze_aload_n (k := 0) (by decide +kernel) rfl, ?_⟩
  refine List.forall_mem_cons.mpr ⟨ze_getL (by decide +kernel) fl_X8_50 rfl (by decide), ?_⟩
  refine List.forall_mem_cons.mpr ⟨ze_iconst (n := 1) (by decide +kernel) (by decide), ?_⟩
  refine List.forall_mem_cons.mpr ⟨ze_iald (by decide +kernel), ?_⟩
  refine List.forall_mem_cons.mpr ⟨ze_istoreF_n (k := 1) (by decide +kernel) rfl (by decide), ?_⟩
  refine List.forall_mem_cons.mpr ⟨ze_aload_n (k := 0) (by decide +kernel) rfl, ?_⟩
  refine List.forall_mem_cons.mpr ⟨ze_getL (by decide +kernel) fl_X8_9 rfl (by decide), ?_⟩
  refine List.forall_mem_cons.mpr ⟨ze_iconst (n := 0) (by decide +kernel) (by decide), ?_⟩
  refine List.forall_mem_cons.mpr ⟨ze_aload_n (k := 0) (by decide +kernel) rfl, ?_⟩
  refine List.forall_mem_cons.mpr ⟨ze_getL (by decide +kernel) fl_X8_50 rfl (by decide), ?_⟩
  refine List.forall_mem_cons.mpr ⟨ze_iconst (n := 0) (by decide +kernel) (by decide), ?_⟩
  refine List.forall_mem_cons.mpr ⟨ze_iald (by decide +kernel), ?_⟩
  refine List.forall_mem_cons.mpr ⟨ze_iastoreF (by decide +kernel), ?_⟩
  refine List.forall_mem_cons.mpr ⟨ze_aload_n (k := 0) (by decide +kernel) rfl, ?_⟩
  refine List.forall_mem_cons.mpr ⟨ze_getL (by decide +kernel) fl_X8_18 rfl (by decide), ?_⟩
  refine List.forall_mem_cons.mpr ⟨ze_iconst (n := 0) (by decide +kernel) (by decide), ?_⟩
  refine List.forall_mem_cons.mpr ⟨ze_aload_n (k := 0) (by decide +kernel) rfl, ?_⟩
  refine List.forall_mem_cons.mpr ⟨ze_iconst (n := 0) (by decide +kernel) (by decide), ?_⟩
  refine List.forall_mem_cons.mpr ⟨ze_callVF (idx := 82) (by decide +kernel) ml_X8_82 mv_X8_priceOf rfl, ?_⟩
  refine List.forall_mem_cons.mpr ⟨ze_iastoreF (by decide +kernel), ?_⟩
  refine List.forall_mem_cons.mpr ⟨ze_iconst (n := 1) (by decide +kernel) (by decide), ?_⟩
  refine List.forall_mem_cons.mpr ⟨ze_istoreF_n (k := 2) (by decide +kernel) rfl (by decide), ?_⟩
  refine List.forall_mem_cons.mpr ⟨ze_iload_n (k := 2) (by decide +kernel) rfl, ?_⟩
  refine List.forall_mem_cons.mpr ⟨ze_iload_n (k := 1) (by decide +kernel) rfl, ?_⟩
  refine List.forall_mem_cons.mpr ⟨ze_icmp_gt (off := 89) (by decide +kernel) (by decide), ?_⟩
  refine List.forall_mem_cons.mpr ⟨ze_iload_n (k := 2) (by decide +kernel) rfl, ?_⟩
  refine List.forall_mem_cons.mpr ⟨ze_bipush (n := 12) (by decide +kernel) (by decide), ?_⟩
  refine List.forall_mem_cons.mpr ⟨ze_icmp_gt (off := 83) (by decide +kernel) (by decide), ?_⟩
  refine List.forall_mem_cons.mpr ⟨ze_aload_n (k := 0) (by decide +kernel) rfl, ?_⟩
  refine List.forall_mem_cons.mpr ⟨ze_getL (by decide +kernel) fl_X8_15 rfl (by decide), ?_⟩
  refine List.forall_mem_cons.mpr ⟨ze_iload_n (k := 2) (by decide +kernel) rfl, ?_⟩
  refine List.forall_mem_cons.mpr ⟨ze_iload_n (k := 2) (by decide +kernel) rfl, ?_⟩
  refine List.forall_mem_cons.mpr ⟨ze_iload_n (k := 1) (by decide +kernel) rfl, ?_⟩
  refine List.forall_mem_cons.mpr ⟨ze_icmp_ne (off := 14) (by decide +kernel) (by decide), ?_⟩
  refine List.forall_mem_cons.mpr ⟨ze_aload_n (k := 0) (by decide +kernel) rfl, ?_⟩
  refine List.forall_mem_cons.mpr ⟨ze_getL (by decide +kernel) fl_X8_9 rfl (by decide), ?_⟩
  refine List.forall_mem_cons.mpr ⟨ze_iload_n (k := 2) (by decide +kernel) rfl, ?_⟩
  refine List.forall_mem_cons.mpr ⟨ze_iconst (n := 1) (by decide +kernel) (by decide), ?_⟩
  refine List.forall_mem_cons.mpr ⟨ze_isub (by decide +kernel), ?_⟩
  refine List.forall_mem_cons.mpr ⟨ze_iald (by decide +kernel), ?_⟩
  refine List.forall_mem_cons.mpr ⟨ze_goto (off := 23) (by decide +kernel) (by decide), ?_⟩
  refine List.forall_mem_cons.mpr ⟨ze_aload_n (k := 0) (by decide +kernel) rfl, ?_⟩
  refine List.forall_mem_cons.mpr ⟨ze_getL (by decide +kernel) fl_X8_9 rfl (by decide), ?_⟩
  refine List.forall_mem_cons.mpr ⟨ze_iload_n (k := 2) (by decide +kernel) rfl, ?_⟩
  refine List.forall_mem_cons.mpr ⟨ze_iconst (n := 1) (by decide +kernel) (by decide), ?_⟩
  refine List.forall_mem_cons.mpr ⟨ze_isub (by decide +kernel), ?_⟩
  refine List.forall_mem_cons.mpr ⟨ze_iald (by decide +kernel), ?_⟩
  refine List.forall_mem_cons.mpr ⟨ze_aload_n (k := 0) (by decide +kernel) rfl, ?_⟩
  refine List.forall_mem_cons.mpr ⟨ze_getL (by decide +kernel) fl_X8_36 rfl (by decide), ?_⟩
  refine List.forall_mem_cons.mpr ⟨ze_bipush (n := 12) (by decide +kernel) (by decide), ?_⟩
  refine List.forall_mem_cons.mpr ⟨ze_iload_n (k := 2) (by decide +kernel) rfl, ?_⟩
  refine List.forall_mem_cons.mpr ⟨ze_iadd (by decide +kernel), ?_⟩
  refine List.forall_mem_cons.mpr ⟨ze_iald (by decide +kernel), ?_⟩
  refine List.forall_mem_cons.mpr ⟨ze_min (idx := 53) (by decide +kernel) ml_X8_53 jmn.1 jmn.2.1 jmn.2.2, ?_⟩
  refine List.forall_mem_cons.mpr ⟨ze_iastoreF (by decide +kernel), ?_⟩
  refine List.forall_mem_cons.mpr ⟨ze_aload_n (k := 0) (by decide +kernel) rfl, ?_⟩
  refine List.forall_mem_cons.mpr ⟨ze_getL (by decide +kernel) fl_X8_9 rfl (by decide), ?_⟩
  refine List.forall_mem_cons.mpr ⟨ze_iload_n (k := 2) (by decide +kernel) rfl, ?_⟩
  refine List.forall_mem_cons.mpr ⟨ze_aload_n (k := 0) (by decide +kernel) rfl, ?_⟩
  refine List.forall_mem_cons.mpr ⟨ze_getL (by decide +kernel) fl_X8_9 rfl (by decide), ?_⟩
  refine List.forall_mem_cons.mpr ⟨ze_iload_n (k := 2) (by decide +kernel) rfl, ?_⟩
  refine List.forall_mem_cons.mpr ⟨ze_iconst (n := 1) (by decide +kernel) (by decide), ?_⟩
  refine List.forall_mem_cons.mpr ⟨ze_isub (by decide +kernel), ?_⟩
  refine List.forall_mem_cons.mpr ⟨ze_iald (by decide +kernel), ?_⟩
  refine List.forall_mem_cons.mpr ⟨ze_aload_n (k := 0) (by decide +kernel) rfl, ?_⟩
  refine List.forall_mem_cons.mpr ⟨ze_getL (by decide +kernel) fl_X8_15 rfl (by decide), ?_⟩
  refine List.forall_mem_cons.mpr ⟨ze_iload_n (k := 2) (by decide +kernel) rfl, ?_⟩
  refine List.forall_mem_cons.mpr ⟨ze_iald (by decide +kernel), ?_⟩
  refine List.forall_mem_cons.mpr ⟨ze_isub (by decide +kernel), ?_⟩
  refine List.forall_mem_cons.mpr ⟨ze_iastoreF (by decide +kernel), ?_⟩
  refine List.forall_mem_cons.mpr ⟨ze_aload_n (k := 0) (by decide +kernel) rfl, ?_⟩
  refine List.forall_mem_cons.mpr ⟨ze_getL (by decide +kernel) fl_X8_18 rfl (by decide), ?_⟩
  refine List.forall_mem_cons.mpr ⟨ze_iload_n (k := 2) (by decide +kernel) rfl, ?_⟩
  refine List.forall_mem_cons.mpr ⟨ze_aload_n (k := 0) (by decide +kernel) rfl, ?_⟩
  refine List.forall_mem_cons.mpr ⟨ze_iload_n (k := 2) (by decide +kernel) rfl, ?_⟩
  refine List.forall_mem_cons.mpr ⟨ze_callVF (idx := 82) (by decide +kernel) ml_X8_82 mv_X8_priceOf rfl, ?_⟩
  refine List.forall_mem_cons.mpr ⟨ze_iastoreF (by decide +kernel), ?_⟩
  refine List.forall_mem_cons.mpr ⟨ze_iincF (n := 1) (by decide +kernel) (by decide) (by decide), ?_⟩
  refine List.forall_mem_cons.mpr ⟨ze_goto (off := -88) (by decide +kernel) (by decide), ?_⟩
  refine List.forall_mem_cons.mpr ⟨ze_vret (by decide +kernel) rfl, ?_⟩
  exact fun _ h => absurd h List.not_mem_nil
theorem vX8_reckonYears {l : Launch} {G : GT} {d : Nat} {av : List Value} {Q : Po} {σ : Mm} (cs : List (Nat × List Nat)) (k : Nat) (h : vc l G d mX8_reckonYears TX8_reckonYears Q cs k TX8_reckonYears (lv_args 0 av) [] σ) (hlen : (lg_sl av).length ≤ mX8_reckonYears.2.2.1 := by exact Nat.le_of_ble_eq_true rfl) : MW l G d mX8_reckonYears av σ Q := mw_vc TX8_reckonYears_ok mc_X8_reckonYears rfl hlen cs k rfl h
theorem wX8_reckonYears {l : Launch} {G : GT} {d : Nat} {Q : Po} {pc : Nat} {lv : Lv} {st : List Value} {σ : Mm} (cs : List (Nat × List Nat)) (k : Nat) (h : vc l G d mX8_reckonYears TX8_reckonYears Q cs k (drp TX8_reckonYears pc) lv st σ) (hpc : hdp (drp TX8_reckonYears pc) = pc := by rfl) : Wp l G d mX8_reckonYears pc lv st σ Q := wp_vc TX8_reckonYears_ok cs k hpc h
def TX8_priceOf : List In := [(0, 1, zt_aload 0), (1, 4, zt_getL 16 0), (4, 5, zt_iload 1), (5, 6, zt_iald), (6, 7, zt_aload 0), (7, 10, zt_getL 16 0), (10, 11, zt_iload 1), (11, 12, zt_iald), (12, 13, zt_ic 0), (13, 14, zt_aload 0), (14, 17, zt_getL 16 6), (17, 19, zt_ic 7), (19, 20, zt_iald), (20, 21, zt_iload 1), (21, 22, zt_aload 0), (22, 25, zt_getL 16 6), (25, 27, zt_ic 8), (27, 28, zt_iald), (28, 29, zt_imul), (29, 30, zt_isub), (30, 33, zt_max), (33, 34, zt_imul), (34, 37, zt_ic 1000), (37, 38, zt_idiv), (38, 39, zt_iadd), (39, 40, zt_iret)]
theorem TX8_priceOf_ok : ∀ i ∈ TX8_priceOf, Ent mX8_priceOf i := by
  refine List.forall_mem_cons.mpr ⟨ze_aload_n (k := 0) (by decide +kernel) rfl, ?_⟩
  refine List.forall_mem_cons.mpr ⟨ze_getL (by decide +kernel) fl_X8_9 rfl (by decide), ?_⟩
  refine List.forall_mem_cons.mpr ⟨ze_iload_n (k := 1) (by decide +kernel) rfl, ?_⟩
  refine List.forall_mem_cons.mpr ⟨ze_iald (by decide +kernel), ?_⟩
  refine List.forall_mem_cons.mpr ⟨ze_aload_n (k := 0) (by decide +kernel) rfl, ?_⟩
  refine List.forall_mem_cons.mpr ⟨ze_getL (by decide +kernel) fl_X8_9 rfl (by decide), ?_⟩
  refine List.forall_mem_cons.mpr ⟨ze_iload_n (k := 1) (by decide +kernel) rfl, ?_⟩
  refine List.forall_mem_cons.mpr ⟨ze_iald (by decide +kernel), ?_⟩
  refine List.forall_mem_cons.mpr ⟨ze_iconst (n := 0) (by decide +kernel) (by decide), ?_⟩
  refine List.forall_mem_cons.mpr ⟨ze_aload_n (k := 0) (by decide +kernel) rfl, ?_⟩
  refine List.forall_mem_cons.mpr ⟨ze_getL (by decide +kernel) fl_X8_50 rfl (by decide), ?_⟩
  refine List.forall_mem_cons.mpr ⟨ze_bipush (n := 7) (by decide +kernel) (by decide), ?_⟩
  refine List.forall_mem_cons.mpr ⟨ze_iald (by decide +kernel), ?_⟩
  refine List.forall_mem_cons.mpr ⟨ze_iload_n (k := 1) (by decide +kernel) rfl, ?_⟩
  refine List.forall_mem_cons.mpr ⟨ze_aload_n (k := 0) (by decide +kernel) rfl, ?_⟩
  refine List.forall_mem_cons.mpr ⟨ze_getL (by decide +kernel) fl_X8_50 rfl (by decide), ?_⟩
  refine List.forall_mem_cons.mpr ⟨ze_bipush (n := 8) (by decide +kernel) (by decide), ?_⟩
  refine List.forall_mem_cons.mpr ⟨ze_iald (by decide +kernel), ?_⟩
  refine List.forall_mem_cons.mpr ⟨ze_imul (by decide +kernel), ?_⟩
  refine List.forall_mem_cons.mpr ⟨ze_isub (by decide +kernel), ?_⟩
  refine List.forall_mem_cons.mpr ⟨ze_max (idx := 59) (by decide +kernel) ml_X8_59 jmx.1 jmx.2.1 jmx.2.2, ?_⟩
  refine List.forall_mem_cons.mpr ⟨ze_imul (by decide +kernel), ?_⟩
  refine List.forall_mem_cons.mpr ⟨ze_sipush (n := 1000) (by decide +kernel) (by decide), ?_⟩
  refine List.forall_mem_cons.mpr ⟨ze_idiv (by decide +kernel), ?_⟩
  refine List.forall_mem_cons.mpr ⟨ze_iadd (by decide +kernel), ?_⟩
  refine List.forall_mem_cons.mpr ⟨ze_iret (by decide +kernel) rfl, ?_⟩
  exact fun _ h => absurd h List.not_mem_nil
theorem vX8_priceOf {l : Launch} {G : GT} {d : Nat} {av : List Value} {Q : Po} {σ : Mm} (cs : List (Nat × List Nat)) (k : Nat) (h : vc l G d mX8_priceOf TX8_priceOf Q cs k TX8_priceOf (lv_args 0 av) [] σ) (hlen : (lg_sl av).length ≤ mX8_priceOf.2.2.1 := by exact Nat.le_of_ble_eq_true rfl) : MW l G d mX8_priceOf av σ Q := mw_vc TX8_priceOf_ok mc_X8_priceOf rfl hlen cs k rfl h
theorem wX8_priceOf {l : Launch} {G : GT} {d : Nat} {Q : Po} {pc : Nat} {lv : Lv} {st : List Value} {σ : Mm} (cs : List (Nat × List Nat)) (k : Nat) (h : vc l G d mX8_priceOf TX8_priceOf Q cs k (drp TX8_priceOf pc) lv st σ) (hpc : hdp (drp TX8_priceOf pc) = pc := by rfl) : Wp l G d mX8_priceOf pc lv st σ Q := wp_vc TX8_priceOf_ok cs k hpc h
def TX8_interestOf : List In := [(0, 1, zt_iload 1), (1, 2, zt_ic 1), (2, 5, zt_icmp_lt 28), (5, 6, zt_iload 1), (6, 8, zt_ic 12), (8, 11, zt_icmp_gt 28), (11, 12, zt_aload 0), (12, 15, zt_getL 16 0), (15, 16, zt_iload 1), (16, 17, zt_ic 1), (17, 18, zt_isub), (18, 19, zt_iald), (19, 20, zt_iload 2), (20, 21, zt_imul), (21, 24, zt_ic 1000), (24, 25, zt_idiv), (25, 28, zt_goto 29), (28, 29, zt_ic 0), (29, 30, zt_iret)]
theorem TX8_interestOf_ok : ∀ i ∈ TX8_interestOf, Ent mX8_interestOf i := by
  refine List.forall_mem_cons.mpr ⟨ze_iload_n (k := 1) (by decide +kernel) rfl, ?_⟩
  refine List.forall_mem_cons.mpr ⟨ze_iconst (n := 1) (by decide +kernel) (by decide), ?_⟩
  refine List.forall_mem_cons.mpr ⟨ze_icmp_lt (off := 26) (by decide +kernel) (by decide), ?_⟩
  refine List.forall_mem_cons.mpr ⟨ze_iload_n (k := 1) (by decide +kernel) rfl, ?_⟩
  refine List.forall_mem_cons.mpr ⟨ze_bipush (n := 12) (by decide +kernel) (by decide), ?_⟩
  refine List.forall_mem_cons.mpr ⟨ze_icmp_gt (off := 20) (by decide +kernel) (by decide), ?_⟩
  refine List.forall_mem_cons.mpr ⟨ze_aload_n (k := 0) (by decide +kernel) rfl, ?_⟩
  refine List.forall_mem_cons.mpr ⟨ze_getL (by decide +kernel) fl_X8_9 rfl (by decide), ?_⟩
  refine List.forall_mem_cons.mpr ⟨ze_iload_n (k := 1) (by decide +kernel) rfl, ?_⟩
  refine List.forall_mem_cons.mpr ⟨ze_iconst (n := 1) (by decide +kernel) (by decide), ?_⟩
  refine List.forall_mem_cons.mpr ⟨ze_isub (by decide +kernel), ?_⟩
  refine List.forall_mem_cons.mpr ⟨ze_iald (by decide +kernel), ?_⟩
  refine List.forall_mem_cons.mpr ⟨ze_iload_n (k := 2) (by decide +kernel) rfl, ?_⟩
  refine List.forall_mem_cons.mpr ⟨ze_imul (by decide +kernel), ?_⟩
  refine List.forall_mem_cons.mpr ⟨ze_sipush (n := 1000) (by decide +kernel) (by decide), ?_⟩
  refine List.forall_mem_cons.mpr ⟨ze_idiv (by decide +kernel), ?_⟩
  refine List.forall_mem_cons.mpr ⟨ze_goto (off := 4) (by decide +kernel) (by decide), ?_⟩
  refine List.forall_mem_cons.mpr ⟨ze_iconst (n := 0) (by decide +kernel) (by decide), ?_⟩
  refine List.forall_mem_cons.mpr ⟨ze_iret (by decide +kernel) rfl, ?_⟩
  exact fun _ h => absurd h List.not_mem_nil
theorem vX8_interestOf {l : Launch} {G : GT} {d : Nat} {av : List Value} {Q : Po} {σ : Mm} (cs : List (Nat × List Nat)) (k : Nat) (h : vc l G d mX8_interestOf TX8_interestOf Q cs k TX8_interestOf (lv_args 0 av) [] σ) (hlen : (lg_sl av).length ≤ mX8_interestOf.2.2.1 := by exact Nat.le_of_ble_eq_true rfl) : MW l G d mX8_interestOf av σ Q := mw_vc TX8_interestOf_ok mc_X8_interestOf rfl hlen cs k rfl h
theorem wX8_interestOf {l : Launch} {G : GT} {d : Nat} {Q : Po} {pc : Nat} {lv : Lv} {st : List Value} {σ : Mm} (cs : List (Nat × List Nat)) (k : Nat) (h : vc l G d mX8_interestOf TX8_interestOf Q cs k (drp TX8_interestOf pc) lv st σ) (hpc : hdp (drp TX8_interestOf pc) = pc := by rfl) : Wp l G d mX8_interestOf pc lv st σ Q := wp_vc TX8_interestOf_ok cs k hpc h
def TX8_dueAt : List In := [(0, 1, zt_iload 1), (1, 2, zt_ic 1), (2, 5, zt_icmp_lt 27), (5, 6, zt_iload 1), (6, 8, zt_ic 12), (8, 11, zt_icmp_gt 27), (11, 12, zt_aload 0), (12, 15, zt_getL 16 1), (15, 16, zt_iload 1), (16, 17, zt_iald), (17, 18, zt_aload 0), (18, 19, zt_iload 1), (19, 20, zt_iload 2), (20, 23, zt_callVF mX8_interestOf 2 16), (23, 24, zt_iadd), (24, 27, zt_goto 28), (27, 28, zt_ic 0), (28, 29, zt_iret)]
theorem TX8_dueAt_ok : ∀ i ∈ TX8_dueAt, Ent mX8_dueAt i := by
  refine List.forall_mem_cons.mpr ⟨ze_iload_n (k := 1) (by decide +kernel) rfl, ?_⟩
  refine List.forall_mem_cons.mpr ⟨ze_iconst (n := 1) (by decide +kernel) (by decide), ?_⟩
  refine List.forall_mem_cons.mpr ⟨ze_icmp_lt (off := 25) (by decide +kernel) (by decide), ?_⟩
  refine List.forall_mem_cons.mpr ⟨ze_iload_n (k := 1) (by decide +kernel) rfl, ?_⟩
  refine List.forall_mem_cons.mpr ⟨ze_bipush (n := 12) (by decide +kernel) (by decide), ?_⟩
  refine List.forall_mem_cons.mpr ⟨ze_icmp_gt (off := 19) (by decide +kernel) (by decide), ?_⟩
  refine List.forall_mem_cons.mpr ⟨ze_aload_n (k := 0) (by decide +kernel) rfl, ?_⟩
  refine List.forall_mem_cons.mpr ⟨ze_getL (by decide +kernel) fl_X8_15 rfl (by decide), ?_⟩
  refine List.forall_mem_cons.mpr ⟨ze_iload_n (k := 1) (by decide +kernel) rfl, ?_⟩
  refine List.forall_mem_cons.mpr ⟨ze_iald (by decide +kernel), ?_⟩
  refine List.forall_mem_cons.mpr ⟨ze_aload_n (k := 0) (by decide +kernel) rfl, ?_⟩
  refine List.forall_mem_cons.mpr ⟨ze_iload_n (k := 1) (by decide +kernel) rfl, ?_⟩
  refine List.forall_mem_cons.mpr ⟨ze_iload_n (k := 2) (by decide +kernel) rfl, ?_⟩
  refine List.forall_mem_cons.mpr ⟨ze_callVF (idx := 85) (by decide +kernel) ml_X8_85 mv_X8_interestOf rfl, ?_⟩
  refine List.forall_mem_cons.mpr ⟨ze_iadd (by decide +kernel), ?_⟩
  refine List.forall_mem_cons.mpr ⟨ze_goto (off := 4) (by decide +kernel) (by decide), ?_⟩
  refine List.forall_mem_cons.mpr ⟨ze_iconst (n := 0) (by decide +kernel) (by decide), ?_⟩
  refine List.forall_mem_cons.mpr ⟨ze_iret (by decide +kernel) rfl, ?_⟩
  exact fun _ h => absurd h List.not_mem_nil
theorem vX8_dueAt {l : Launch} {G : GT} {d : Nat} {av : List Value} {Q : Po} {σ : Mm} (cs : List (Nat × List Nat)) (k : Nat) (h : vc l G d mX8_dueAt TX8_dueAt Q cs k TX8_dueAt (lv_args 0 av) [] σ) (hlen : (lg_sl av).length ≤ mX8_dueAt.2.2.1 := by exact Nat.le_of_ble_eq_true rfl) : MW l G d mX8_dueAt av σ Q := mw_vc TX8_dueAt_ok mc_X8_dueAt rfl hlen cs k rfl h
theorem wX8_dueAt {l : Launch} {G : GT} {d : Nat} {Q : Po} {pc : Nat} {lv : Lv} {st : List Value} {σ : Mm} (cs : List (Nat × List Nat)) (k : Nat) (h : vc l G d mX8_dueAt TX8_dueAt Q cs k (drp TX8_dueAt pc) lv st σ) (hpc : hdp (drp TX8_dueAt pc) = pc := by rfl) : Wp l G d mX8_dueAt pc lv st σ Q := wp_vc TX8_dueAt_ok cs k hpc h
def TX8_renewalAt : List In := [(0, 1, zt_aload 0), (1, 4, zt_getL 16 2), (4, 5, zt_iload 1), (5, 6, zt_iald), (6, 7, zt_aload 0), (7, 10, zt_getL 16 0), (10, 11, zt_iload 1), (11, 12, zt_iald), (12, 13, zt_isub), (13, 14, zt_aload 0), (14, 17, zt_getL 16 6), (17, 19, zt_ic 13), (19, 20, zt_iald), (20, 21, zt_iadd), (21, 22, zt_iret)]
theorem TX8_renewalAt_ok : ∀ i ∈ TX8_renewalAt, Ent mX8_renewalAt i := by
  refine List.forall_mem_cons.mpr ⟨ze_aload_n (k := 0) (by decide +kernel) rfl, ?_⟩
  refine List.forall_mem_cons.mpr ⟨ze_getL (by decide +kernel) fl_X8_18 rfl (by decide), ?_⟩
  refine List.forall_mem_cons.mpr ⟨ze_iload_n (k := 1) (by decide +kernel) rfl, ?_⟩
  refine List.forall_mem_cons.mpr ⟨ze_iald (by decide +kernel), ?_⟩
  refine List.forall_mem_cons.mpr ⟨ze_aload_n (k := 0) (by decide +kernel) rfl, ?_⟩
  refine List.forall_mem_cons.mpr ⟨ze_getL (by decide +kernel) fl_X8_9 rfl (by decide), ?_⟩
  refine List.forall_mem_cons.mpr ⟨ze_iload_n (k := 1) (by decide +kernel) rfl, ?_⟩
  refine List.forall_mem_cons.mpr ⟨ze_iald (by decide +kernel), ?_⟩
  refine List.forall_mem_cons.mpr ⟨ze_isub (by decide +kernel), ?_⟩
  refine List.forall_mem_cons.mpr ⟨ze_aload_n (k := 0) (by decide +kernel) rfl, ?_⟩
  refine List.forall_mem_cons.mpr ⟨ze_getL (by decide +kernel) fl_X8_50 rfl (by decide), ?_⟩
  refine List.forall_mem_cons.mpr ⟨ze_bipush (n := 13) (by decide +kernel) (by decide), ?_⟩
  refine List.forall_mem_cons.mpr ⟨ze_iald (by decide +kernel), ?_⟩
  refine List.forall_mem_cons.mpr ⟨ze_iadd (by decide +kernel), ?_⟩
  refine List.forall_mem_cons.mpr ⟨ze_iret (by decide +kernel) rfl, ?_⟩
  exact fun _ h => absurd h List.not_mem_nil
theorem vX8_renewalAt {l : Launch} {G : GT} {d : Nat} {av : List Value} {Q : Po} {σ : Mm} (cs : List (Nat × List Nat)) (k : Nat) (h : vc l G d mX8_renewalAt TX8_renewalAt Q cs k TX8_renewalAt (lv_args 0 av) [] σ) (hlen : (lg_sl av).length ≤ mX8_renewalAt.2.2.1 := by exact Nat.le_of_ble_eq_true rfl) : MW l G d mX8_renewalAt av σ Q := mw_vc TX8_renewalAt_ok mc_X8_renewalAt rfl hlen cs k rfl h
theorem wX8_renewalAt {l : Launch} {G : GT} {d : Nat} {Q : Po} {pc : Nat} {lv : Lv} {st : List Value} {σ : Mm} (cs : List (Nat × List Nat)) (k : Nat) (h : vc l G d mX8_renewalAt TX8_renewalAt Q cs k (drp TX8_renewalAt pc) lv st σ) (hpc : hdp (drp TX8_renewalAt pc) = pc := by rfl) : Wp l G d mX8_renewalAt pc lv st σ Q := wp_vc TX8_renewalAt_ok cs k hpc h
def TX8_couponAt : List In := [(0, 3, zt_ic 999), (3, 4, zt_iload 1), (4, 5, zt_aload 0), (5, 8, zt_getL 16 6), (8, 10, zt_ic 12), (10, 11, zt_iald), (11, 12, zt_iadd), (12, 15, zt_min), (15, 16, zt_iret)]
theorem TX8_couponAt_ok : ∀ i ∈ TX8_couponAt, Ent mX8_couponAt i := by
  refine List.forall_mem_cons.mpr ⟨ze_sipush (n := 999) (by decide +kernel) (by decide), ?_⟩
  refine List.forall_mem_cons.mpr ⟨ze_iload_n (k := 1) (by decide +kernel) rfl, ?_⟩
  refine List.forall_mem_cons.mpr ⟨ze_aload_n (k := 0) (by decide +kernel) rfl, ?_⟩
  refine List.forall_mem_cons.mpr ⟨ze_getL (by decide +kernel) fl_X8_50 rfl (by decide), ?_⟩
  refine List.forall_mem_cons.mpr ⟨ze_bipush (n := 12) (by decide +kernel) (by decide), ?_⟩
  refine List.forall_mem_cons.mpr ⟨ze_iald (by decide +kernel), ?_⟩
  refine List.forall_mem_cons.mpr ⟨ze_iadd (by decide +kernel), ?_⟩
  refine List.forall_mem_cons.mpr ⟨ze_min (idx := 53) (by decide +kernel) ml_X8_53 jmn.1 jmn.2.1 jmn.2.2, ?_⟩
  refine List.forall_mem_cons.mpr ⟨ze_iret (by decide +kernel) rfl, ?_⟩
  exact fun _ h => absurd h List.not_mem_nil
theorem vX8_couponAt {l : Launch} {G : GT} {d : Nat} {av : List Value} {Q : Po} {σ : Mm} (cs : List (Nat × List Nat)) (k : Nat) (h : vc l G d mX8_couponAt TX8_couponAt Q cs k TX8_couponAt (lv_args 0 av) [] σ) (hlen : (lg_sl av).length ≤ mX8_couponAt.2.2.1 := by exact Nat.le_of_ble_eq_true rfl) : MW l G d mX8_couponAt av σ Q := mw_vc TX8_couponAt_ok mc_X8_couponAt rfl hlen cs k rfl h
theorem wX8_couponAt {l : Launch} {G : GT} {d : Nat} {Q : Po} {pc : Nat} {lv : Lv} {st : List Value} {σ : Mm} (cs : List (Nat × List Nat)) (k : Nat) (h : vc l G d mX8_couponAt TX8_couponAt Q cs k (drp TX8_couponAt pc) lv st σ) (hpc : hdp (drp TX8_couponAt pc) = pc := by rfl) : Wp l G d mX8_couponAt pc lv st σ Q := wp_vc TX8_couponAt_ok cs k hpc h
def TX8_couponOfNode : List In := [(0, 1, zt_aload 0), (1, 2, zt_aload 0), (2, 5, zt_getL 16 7), (5, 7, zt_ic 25), (7, 8, zt_iload 1), (8, 9, zt_iadd), (9, 10, zt_iald), (10, 13, zt_callVF mX8_couponAt 1 16), (13, 14, zt_iret)]
theorem TX8_couponOfNode_ok : ∀ i ∈ TX8_couponOfNode, Ent mX8_couponOfNode i := by
  refine List.forall_mem_cons.mpr ⟨ze_aload_n (k := 0) (by decide +kernel) rfl, ?_⟩
  refine List.forall_mem_cons.mpr ⟨ze_aload_n (k := 0) (by decide +kernel) rfl, ?_⟩
  refine List.forall_mem_cons.mpr ⟨ze_getL (by decide +kernel) fl_X8_36 rfl (by decide), ?_⟩
  refine List.forall_mem_cons.mpr ⟨ze_bipush (n := 25) (by decide +kernel) (by decide), ?_⟩
  refine List.forall_mem_cons.mpr ⟨ze_iload_n (k := 1) (by decide +kernel) rfl, ?_⟩
  refine List.forall_mem_cons.mpr ⟨ze_iadd (by decide +kernel), ?_⟩
  refine List.forall_mem_cons.mpr ⟨ze_iald (by decide +kernel), ?_⟩
  refine List.forall_mem_cons.mpr ⟨ze_callVF (idx := 88) (by decide +kernel) ml_X8_88 mv_X8_couponAt rfl, ?_⟩
  refine List.forall_mem_cons.mpr ⟨ze_iret (by decide +kernel) rfl, ?_⟩
  exact fun _ h => absurd h List.not_mem_nil
theorem vX8_couponOfNode {l : Launch} {G : GT} {d : Nat} {av : List Value} {Q : Po} {σ : Mm} (cs : List (Nat × List Nat)) (k : Nat) (h : vc l G d mX8_couponOfNode TX8_couponOfNode Q cs k TX8_couponOfNode (lv_args 0 av) [] σ) (hlen : (lg_sl av).length ≤ mX8_couponOfNode.2.2.1 := by exact Nat.le_of_ble_eq_true rfl) : MW l G d mX8_couponOfNode av σ Q := mw_vc TX8_couponOfNode_ok mc_X8_couponOfNode rfl hlen cs k rfl h
theorem wX8_couponOfNode {l : Launch} {G : GT} {d : Nat} {Q : Po} {pc : Nat} {lv : Lv} {st : List Value} {σ : Mm} (cs : List (Nat × List Nat)) (k : Nat) (h : vc l G d mX8_couponOfNode TX8_couponOfNode Q cs k (drp TX8_couponOfNode pc) lv st σ) (hpc : hdp (drp TX8_couponOfNode pc) = pc := by rfl) : Wp l G d mX8_couponOfNode pc lv st σ Q := wp_vc TX8_couponOfNode_ok cs k hpc h
def TX8_mayCall : List In := [(0, 1, zt_iload 1), (1, 2, zt_aload 0), (2, 5, zt_getL 16 6), (5, 7, zt_ic 9), (7, 8, zt_iald), (8, 11, zt_icmp_lt 33), (11, 12, zt_iload 1), (12, 13, zt_aload 0), (13, 16, zt_getL 16 6), (16, 18, zt_ic 10), (18, 19, zt_iald), (19, 20, zt_iadd), (20, 21, zt_aload 0), (21, 24, zt_getL 16 6), (24, 25, zt_ic 1), (25, 26, zt_iald), (26, 29, zt_icmp_ge 33), (29, 30, zt_ic 1), (30, 33, zt_goto 34), (33, 34, zt_ic 0), (34, 35, zt_zret)]
theorem TX8_mayCall_ok : ∀ i ∈ TX8_mayCall, Ent mX8_mayCall i := by
  refine List.forall_mem_cons.mpr ⟨ze_iload_n (k := 1) (by decide +kernel) rfl, ?_⟩
  refine List.forall_mem_cons.mpr ⟨ze_aload_n (k := 0) (by decide +kernel) rfl, ?_⟩
  refine List.forall_mem_cons.mpr ⟨ze_getL (by decide +kernel) fl_X8_50 rfl (by decide), ?_⟩
  refine List.forall_mem_cons.mpr ⟨ze_bipush (n := 9) (by decide +kernel) (by decide), ?_⟩
  refine List.forall_mem_cons.mpr ⟨ze_iald (by decide +kernel), ?_⟩
  refine List.forall_mem_cons.mpr ⟨ze_icmp_lt (off := 25) (by decide +kernel) (by decide), ?_⟩
  refine List.forall_mem_cons.mpr ⟨ze_iload_n (k := 1) (by decide +kernel) rfl, ?_⟩
  refine List.forall_mem_cons.mpr ⟨ze_aload_n (k := 0) (by decide +kernel) rfl, ?_⟩
  refine List.forall_mem_cons.mpr ⟨ze_getL (by decide +kernel) fl_X8_50 rfl (by decide), ?_⟩
  refine List.forall_mem_cons.mpr ⟨ze_bipush (n := 10) (by decide +kernel) (by decide), ?_⟩
  refine List.forall_mem_cons.mpr ⟨ze_iald (by decide +kernel), ?_⟩
  refine List.forall_mem_cons.mpr ⟨ze_iadd (by decide +kernel), ?_⟩
  refine List.forall_mem_cons.mpr ⟨ze_aload_n (k := 0) (by decide +kernel) rfl, ?_⟩
  refine List.forall_mem_cons.mpr ⟨ze_getL (by decide +kernel) fl_X8_50 rfl (by decide), ?_⟩
  refine List.forall_mem_cons.mpr ⟨ze_iconst (n := 1) (by decide +kernel) (by decide), ?_⟩
  refine List.forall_mem_cons.mpr ⟨ze_iald (by decide +kernel), ?_⟩
  refine List.forall_mem_cons.mpr ⟨ze_icmp_ge (off := 7) (by decide +kernel) (by decide), ?_⟩
  refine List.forall_mem_cons.mpr ⟨ze_iconst (n := 1) (by decide +kernel) (by decide), ?_⟩
  refine List.forall_mem_cons.mpr ⟨ze_goto (off := 4) (by decide +kernel) (by decide), ?_⟩
  refine List.forall_mem_cons.mpr ⟨ze_iconst (n := 0) (by decide +kernel) (by decide), ?_⟩
  refine List.forall_mem_cons.mpr ⟨ze_zret (by decide +kernel) rfl, ?_⟩
  exact fun _ h => absurd h List.not_mem_nil
theorem vX8_mayCall {l : Launch} {G : GT} {d : Nat} {av : List Value} {Q : Po} {σ : Mm} (cs : List (Nat × List Nat)) (k : Nat) (h : vc l G d mX8_mayCall TX8_mayCall Q cs k TX8_mayCall (lv_args 0 av) [] σ) (hlen : (lg_sl av).length ≤ mX8_mayCall.2.2.1 := by exact Nat.le_of_ble_eq_true rfl) : MW l G d mX8_mayCall av σ Q := mw_vc TX8_mayCall_ok mc_X8_mayCall rfl hlen cs k rfl h
theorem wX8_mayCall {l : Launch} {G : GT} {d : Nat} {Q : Po} {pc : Nat} {lv : Lv} {st : List Value} {σ : Mm} (cs : List (Nat × List Nat)) (k : Nat) (h : vc l G d mX8_mayCall TX8_mayCall Q cs k (drp TX8_mayCall pc) lv st σ) (hpc : hdp (drp TX8_mayCall pc) = pc := by rfl) : Wp l G d mX8_mayCall pc lv st σ Q := wp_vc TX8_mayCall_ok cs k hpc h
def TX8_costOf : List In := [(0, 1, zt_iload 3), (1, 4, zt_if_ne 11), (4, 5, zt_aload 1), (5, 8, zt_getL 15 1), (8, 9, zt_iload 2), (9, 10, zt_iald), (10, 11, zt_iret), (11, 12, zt_iload 3), (12, 13, zt_ic 1), (13, 16, zt_icmp_ne 23), (16, 17, zt_aload 1), (17, 20, zt_getL 15 3), (20, 23, zt_goto 27), (23, 24, zt_aload 1), (24, 27, zt_getL 15 4), (27, 28, zt_aload 0), (28, 31, zt_getL 16 6), (31, 33, zt_ic 10), (33, 34, zt_iald), (34, 35, zt_aald), (35, 36, zt_iload 2), (36, 37, zt_iald), (37, 38, zt_iret)]
theorem TX8_costOf_ok : ∀ i ∈ TX8_costOf, Ent mX8_costOf i := by
  refine List.forall_mem_cons.mpr ⟨ze_iload_n (k := 3) (by decide +kernel) rfl, ?_⟩
  refine List.forall_mem_cons.mpr ⟨ze_if_ne (off := 10) (by decide +kernel) (by decide), ?_⟩
  refine List.forall_mem_cons.mpr ⟨ze_aload_n (k := 1) (by decide +kernel) rfl, ?_⟩
  refine List.forall_mem_cons.mpr ⟨ze_getL (by decide +kernel) fl_X8_91 rfl (by decide), ?_⟩
  refine List.forall_mem_cons.mpr ⟨ze_iload_n (k := 2) (by decide +kernel) rfl, ?_⟩
  refine List.forall_mem_cons.mpr ⟨ze_iald (by decide +kernel), ?_⟩
  refine List.forall_mem_cons.mpr ⟨ze_iret (by decide +kernel) rfl, ?_⟩
  refine List.forall_mem_cons.mpr ⟨ze_iload_n (k := 3) (by decide +kernel) rfl, ?_⟩
  refine List.forall_mem_cons.mpr ⟨ze_iconst (n := 1) (by decide +kernel) (by decide), ?_⟩
  refine List.forall_mem_cons.mpr ⟨ze_icmp_ne (off := 10) (by decide +kernel) (by decide), ?_⟩
  refine List.forall_mem_cons.mpr ⟨ze_aload_n (k := 1) (by decide +kernel) rfl, ?_⟩
  refine List.forall_mem_cons.mpr ⟨ze_getL (by decide +kernel) fl_X8_94 rfl (by decide), ?_⟩
  refine List.forall_mem_cons.mpr ⟨ze_goto (off := 7) (by decide +kernel) (by decide), ?_⟩
  refine List.forall_mem_cons.mpr ⟨ze_aload_n (k := 1) (by decide +kernel) rfl, ?_⟩
  refine List.forall_mem_cons.mpr ⟨ze_getL (by decide +kernel) fl_X8_97 rfl (by decide), ?_⟩
  refine List.forall_mem_cons.mpr ⟨ze_aload_n (k := 0) (by decide +kernel) rfl, ?_⟩
  refine List.forall_mem_cons.mpr ⟨ze_getL (by decide +kernel) fl_X8_50 rfl (by decide), ?_⟩
  refine List.forall_mem_cons.mpr ⟨ze_bipush (n := 10) (by decide +kernel) (by decide), ?_⟩
  refine List.forall_mem_cons.mpr ⟨ze_iald (by decide +kernel), ?_⟩
  refine List.forall_mem_cons.mpr ⟨ze_aald (by decide +kernel), ?_⟩
  refine List.forall_mem_cons.mpr ⟨ze_iload_n (k := 2) (by decide +kernel) rfl, ?_⟩
  refine List.forall_mem_cons.mpr ⟨ze_iald (by decide +kernel), ?_⟩
  refine List.forall_mem_cons.mpr ⟨ze_iret (by decide +kernel) rfl, ?_⟩
  exact fun _ h => absurd h List.not_mem_nil
theorem vX8_costOf {l : Launch} {G : GT} {d : Nat} {av : List Value} {Q : Po} {σ : Mm} (cs : List (Nat × List Nat)) (k : Nat) (h : vc l G d mX8_costOf TX8_costOf Q cs k TX8_costOf (lv_args 0 av) [] σ) (hlen : (lg_sl av).length ≤ mX8_costOf.2.2.1 := by exact Nat.le_of_ble_eq_true rfl) : MW l G d mX8_costOf av σ Q := mw_vc TX8_costOf_ok mc_X8_costOf rfl hlen cs k rfl h
theorem wX8_costOf {l : Launch} {G : GT} {d : Nat} {Q : Po} {pc : Nat} {lv : Lv} {st : List Value} {σ : Mm} (cs : List (Nat × List Nat)) (k : Nat) (h : vc l G d mX8_costOf TX8_costOf Q cs k (drp TX8_costOf pc) lv st σ) (hpc : hdp (drp TX8_costOf pc) = pc := by rfl) : Wp l G d mX8_costOf pc lv st σ Q := wp_vc TX8_costOf_ok cs k hpc h
def TX8_lastAllowed : List In := [(0, 1, zt_aload 0), (1, 2, zt_iload 1), (2, 5, zt_callVF mX8_mayCall 1 16), (5, 8, zt_if_ne 10), (8, 9, zt_ic 0), (9, 10, zt_iret), (10, 11, zt_iload 2), (11, 14, zt_if_le 18), (14, 15, zt_ic 2), (15, 18, zt_goto 19), (18, 19, zt_ic 1), (19, 20, zt_iret)]
theorem TX8_lastAllowed_ok : ∀ i ∈ TX8_lastAllowed, Ent mX8_lastAllowed i := by
  refine List.forall_mem_cons.mpr ⟨ze_aload_n (k := 0) (by decide +kernel) rfl, ?_⟩
  refine List.forall_mem_cons.mpr ⟨ze_iload_n (k := 1) (by decide +kernel) rfl, ?_⟩
  refine List.forall_mem_cons.mpr ⟨ze_callVF (idx := 100) (by decide +kernel) ml_X8_100 mv_X8_mayCall rfl, ?_⟩
  refine List.forall_mem_cons.mpr ⟨ze_if_ne (off := 5) (by decide +kernel) (by decide), ?_⟩
  refine List.forall_mem_cons.mpr ⟨ze_iconst (n := 0) (by decide +kernel) (by decide), ?_⟩
  refine List.forall_mem_cons.mpr ⟨ze_iret (by decide +kernel) rfl, ?_⟩
  refine List.forall_mem_cons.mpr ⟨ze_iload_n (k := 2) (by decide +kernel) rfl, ?_⟩
  refine List.forall_mem_cons.mpr ⟨ze_if_le (off := 7) (by decide +kernel) (by decide), ?_⟩
  refine List.forall_mem_cons.mpr ⟨ze_iconst (n := 2) (by decide +kernel) (by decide), ?_⟩
  refine List.forall_mem_cons.mpr ⟨ze_goto (off := 4) (by decide +kernel) (by decide), ?_⟩
  refine List.forall_mem_cons.mpr ⟨ze_iconst (n := 1) (by decide +kernel) (by decide), ?_⟩
  refine List.forall_mem_cons.mpr ⟨ze_iret (by decide +kernel) rfl, ?_⟩
  exact fun _ h => absurd h List.not_mem_nil
theorem vX8_lastAllowed {l : Launch} {G : GT} {d : Nat} {av : List Value} {Q : Po} {σ : Mm} (cs : List (Nat × List Nat)) (k : Nat) (h : vc l G d mX8_lastAllowed TX8_lastAllowed Q cs k TX8_lastAllowed (lv_args 0 av) [] σ) (hlen : (lg_sl av).length ≤ mX8_lastAllowed.2.2.1 := by exact Nat.le_of_ble_eq_true rfl) : MW l G d mX8_lastAllowed av σ Q := mw_vc TX8_lastAllowed_ok mc_X8_lastAllowed rfl hlen cs k rfl h
theorem wX8_lastAllowed {l : Launch} {G : GT} {d : Nat} {Q : Po} {pc : Nat} {lv : Lv} {st : List Value} {σ : Mm} (cs : List (Nat × List Nat)) (k : Nat) (h : vc l G d mX8_lastAllowed TX8_lastAllowed Q cs k (drp TX8_lastAllowed pc) lv st σ) (hpc : hdp (drp TX8_lastAllowed pc) = pc := by rfl) : Wp l G d mX8_lastAllowed pc lv st σ Q := wp_vc TX8_lastAllowed_ok cs k hpc h
def TX8_leastDeed : List In := [(0, 1, zt_aload 0), (1, 4, zt_getL 16 6), (4, 6, zt_ic 10), (6, 7, zt_iald), (7, 9, zt_istoreF 4), (9, 10, zt_ic 0), (10, 12, zt_istoreF 5), (12, 13, zt_aload 1), (13, 16, zt_getL 15 1), (16, 17, zt_iload 2), (17, 18, zt_iald), (18, 20, zt_istoreF 6), (20, 21, zt_iload 3), (21, 22, zt_ic 1), (22, 25, zt_icmp_lt 53), (25, 26, zt_aload 1), (26, 29, zt_getL 15 3), (29, 31, zt_iload 4), (31, 32, zt_aald), (32, 33, zt_iload 2), (33, 34, zt_iald), (34, 36, zt_iload 6), (36, 39, zt_icmp_ge 53), (39, 40, zt_ic 1), (40, 42, zt_istoreF 5), (42, 43, zt_aload 1), (43, 46, zt_getL 15 3), (46, 48, zt_iload 4), (48, 49, zt_aald), (49, 50, zt_iload 2), (50, 51, zt_iald), (51, 53, zt_istoreF 6), (53, 54, zt_iload 3), (54, 55, zt_ic 2), (55, 58, zt_icmp_lt 75), (58, 59, zt_aload 1), (59, 62, zt_getL 15 4), (62, 64, zt_iload 4), (64, 65, zt_aald), (65, 66, zt_iload 2), (66, 67, zt_iald), (67, 69, zt_iload 6), (69, 72, zt_icmp_ge 75), (72, 73, zt_ic 2), (73, 75, zt_istoreF 5), (75, 77, zt_iload 5), (77, 78, zt_iret)]
theorem TX8_leastDeed_ok : ∀ i ∈ TX8_leastDeed, Ent mX8_leastDeed i := by
  refine List.forall_mem_cons.mpr ⟨ze_aload_n (k := 0) (by decide +kernel) rfl, ?_⟩
  refine List.forall_mem_cons.mpr ⟨ze_getL (by decide +kernel) fl_X8_50 rfl (by decide), ?_⟩
  refine List.forall_mem_cons.mpr ⟨ze_bipush (n := 10) (by decide +kernel) (by decide), ?_⟩
  refine List.forall_mem_cons.mpr ⟨ze_iald (by decide +kernel), ?_⟩
  refine List.forall_mem_cons.mpr ⟨ze_istoreF (by decide +kernel) (by decide), ?_⟩
  refine List.forall_mem_cons.mpr ⟨ze_iconst (n := 0) (by decide +kernel) (by decide), ?_⟩
  refine List.forall_mem_cons.mpr ⟨ze_istoreF (by decide +kernel) (by decide), ?_⟩
  refine List.forall_mem_cons.mpr ⟨ze_aload_n (k := 1) (by decide +kernel) rfl, ?_⟩
  refine List.forall_mem_cons.mpr ⟨ze_getL (by decide +kernel) fl_X8_91 rfl (by decide), ?_⟩
  refine List.forall_mem_cons.mpr ⟨ze_iload_n (k := 2) (by decide +kernel) rfl, ?_⟩
  refine List.forall_mem_cons.mpr ⟨ze_iald (by decide +kernel), ?_⟩
  refine List.forall_mem_cons.mpr ⟨ze_istoreF (by decide +kernel) (by decide), ?_⟩
  refine List.forall_mem_cons.mpr ⟨ze_iload_n (k := 3) (by decide +kernel) rfl, ?_⟩
  refine List.forall_mem_cons.mpr ⟨ze_iconst (n := 1) (by decide +kernel) (by decide), ?_⟩
  refine List.forall_mem_cons.mpr ⟨ze_icmp_lt (off := 31) (by decide +kernel) (by decide), ?_⟩
  refine List.forall_mem_cons.mpr ⟨ze_aload_n (k := 1) (by decide +kernel) rfl, ?_⟩
  refine List.forall_mem_cons.mpr ⟨ze_getL (by decide +kernel) fl_X8_94 rfl (by decide), ?_⟩
  refine List.forall_mem_cons.mpr ⟨ze_iload (by decide +kernel), ?_⟩
  refine List.forall_mem_cons.mpr ⟨ze_aald (by decide +kernel), ?_⟩
  refine List.forall_mem_cons.mpr ⟨ze_iload_n (k := 2) (by decide +kernel) rfl, ?_⟩
  refine List.forall_mem_cons.mpr ⟨ze_iald (by decide +kernel), ?_⟩
  refine List.forall_mem_cons.mpr ⟨ze_iload (by decide +kernel), ?_⟩
  refine List.forall_mem_cons.mpr ⟨ze_icmp_ge (off := 17) (by decide +kernel) (by decide), ?_⟩
  refine List.forall_mem_cons.mpr ⟨ze_iconst (n := 1) (by decide +kernel) (by decide), ?_⟩
  refine List.forall_mem_cons.mpr ⟨ze_istoreF (by decide +kernel) (by decide), ?_⟩
  refine List.forall_mem_cons.mpr ⟨ze_aload_n (k := 1) (by decide +kernel) rfl, ?_⟩
  refine List.forall_mem_cons.mpr ⟨ze_getL (by decide +kernel) fl_X8_94 rfl (by decide), ?_⟩
  refine List.forall_mem_cons.mpr ⟨ze_iload (by decide +kernel), ?_⟩
  refine List.forall_mem_cons.mpr ⟨ze_aald (by decide +kernel), ?_⟩
  refine List.forall_mem_cons.mpr ⟨ze_iload_n (k := 2) (by decide +kernel) rfl, ?_⟩
  refine List.forall_mem_cons.mpr ⟨ze_iald (by decide +kernel), ?_⟩
  refine List.forall_mem_cons.mpr ⟨ze_istoreF (by decide +kernel) (by decide), ?_⟩
  refine List.forall_mem_cons.mpr ⟨ze_iload_n (k := 3) (by decide +kernel) rfl, ?_⟩
  refine List.forall_mem_cons.mpr ⟨ze_iconst (n := 2) (by decide +kernel) (by decide), ?_⟩
  refine List.forall_mem_cons.mpr ⟨ze_icmp_lt (off := 20) (by decide +kernel) (by decide), ?_⟩
  refine List.forall_mem_cons.mpr ⟨ze_aload_n (k := 1) (by decide +kernel) rfl, ?_⟩
  refine List.forall_mem_cons.mpr ⟨ze_getL (by decide +kernel) fl_X8_97 rfl (by decide), ?_⟩
  refine List.forall_mem_cons.mpr ⟨ze_iload (by decide +kernel), ?_⟩
  refine List.forall_mem_cons.mpr ⟨ze_aald (by decide +kernel), ?_⟩
  refine List.forall_mem_cons.mpr ⟨ze_iload_n (k := 2) (by decide +kernel) rfl, ?_⟩
  refine List.forall_mem_cons.mpr ⟨ze_iald (by decide +kernel), ?_⟩
  refine List.forall_mem_cons.mpr ⟨ze_iload (by decide +kernel), ?_⟩
  refine List.forall_mem_cons.mpr ⟨ze_icmp_ge (off := 6) (by decide +kernel) (by decide), ?_⟩
  refine List.forall_mem_cons.mpr ⟨ze_iconst (n := 2) (by decide +kernel) (by decide), ?_⟩
  refine List.forall_mem_cons.mpr ⟨ze_istoreF (by decide +kernel) (by decide), ?_⟩
  refine List.forall_mem_cons.mpr ⟨ze_iload (by decide +kernel), ?_⟩
  refine List.forall_mem_cons.mpr ⟨ze_iret (by decide +kernel) rfl, ?_⟩
  exact fun _ h => absurd h List.not_mem_nil
theorem vX8_leastDeed {l : Launch} {G : GT} {d : Nat} {av : List Value} {Q : Po} {σ : Mm} (cs : List (Nat × List Nat)) (k : Nat) (h : vc l G d mX8_leastDeed TX8_leastDeed Q cs k TX8_leastDeed (lv_args 0 av) [] σ) (hlen : (lg_sl av).length ≤ mX8_leastDeed.2.2.1 := by exact Nat.le_of_ble_eq_true rfl) : MW l G d mX8_leastDeed av σ Q := mw_vc TX8_leastDeed_ok mc_X8_leastDeed rfl hlen cs k rfl h
theorem wX8_leastDeed {l : Launch} {G : GT} {d : Nat} {Q : Po} {pc : Nat} {lv : Lv} {st : List Value} {σ : Mm} (cs : List (Nat × List Nat)) (k : Nat) (h : vc l G d mX8_leastDeed TX8_leastDeed Q cs k (drp TX8_leastDeed pc) lv st σ) (hpc : hdp (drp TX8_leastDeed pc) = pc := by rfl) : Wp l G d mX8_leastDeed pc lv st σ Q := wp_vc TX8_leastDeed_ok cs k hpc h
def TX8_reckon : List In := [(0, 1, zt_aload 0), (1, 2, zt_aload 1), (2, 3, zt_iload 2), (3, 6, zt_callVF mX8_look 2 16), (6, 7, zt_iload 3), (7, 8, zt_ic 1), (8, 11, zt_icmp_ne 18), (11, 12, zt_aload 0), (12, 15, zt_getL 16 5), (15, 18, zt_goto 22), (18, 19, zt_aload 0), (19, 22, zt_getL 16 4), (22, 24, zt_astoreF 4), (24, 25, zt_aload 1), (25, 26, zt_ic 2), (26, 27, zt_iald), (27, 29, zt_istoreF 5), (29, 30, zt_aload 1), (30, 31, zt_ic 3), (31, 32, zt_iald), (32, 34, zt_istoreF 6), (34, 36, zt_aload 4), (36, 39, zt_getI 15 7), (39, 42, zt_if_eq 65), (42, 44, zt_aload 4), (44, 47, zt_getI 15 5), (47, 49, zt_iload 5), (49, 52, zt_icmp_ne 65), (52, 54, zt_aload 4), (54, 57, zt_getI 15 6), (57, 59, zt_iload 6), (59, 62, zt_icmp_ne 65), (62, 64, zt_aload 4), (64, 65, zt_aret), (65, 66, zt_iload 3), (66, 67, zt_ic 1), (67, 70, zt_icmp_ne 77), (70, 71, zt_aload 0), (71, 74, zt_getL 16 9), (74, 77, zt_goto 81), (77, 78, zt_aload 0), (78, 81, zt_getL 16 8), (81, 83, zt_astoreF 7), (83, 84, zt_aload 0), (84, 87, zt_getL 16 10), (87, 88, zt_iload 3), (88, 89, zt_iald), (89, 91, zt_istoreF 8), (91, 93, zt_iload 8), (93, 95, zt_iload 6), (95, 98, zt_icmp_ge 222), (98, 100, zt_iload 8), (100, 101, zt_ic 2), (101, 104, zt_icmp_ge 222), (104, 105, zt_aload 0), (105, 108, zt_getL 16 6), (108, 110, zt_ic 9), (110, 111, zt_iald), (111, 112, zt_aload 0), (112, 115, zt_getL 16 6), (115, 117, zt_ic 10), (117, 118, zt_iald), (118, 119, zt_iadd), (119, 121, zt_istoreF 9), (121, 123, zt_iload 9), (123, 124, zt_aload 0), (124, 127, zt_getL 16 6), (127, 128, zt_ic 1), (128, 129, zt_iald), (129, 132, zt_icmp_ge 216), (132, 133, zt_ic 0), (133, 135, zt_istoreF 10), (135, 137, zt_iload 10), (137, 139, zt_iload 9), (139, 142, zt_icmp_gt 210), (142, 144, zt_iload 9), (144, 146, zt_iload 10), (146, 149, zt_callSF mX8_nodeOf 2), (149, 151, zt_istoreF 11), (151, 152, zt_aload 0), (152, 155, zt_getL 16 3), (155, 156, zt_aload 0), (156, 158, zt_iload 11), (158, 161, zt_callVF mX8_couponOfNode 1 16), (161, 164, zt_putI 15 5), (164, 165, zt_aload 0), (165, 168, zt_getL 16 3), (168, 170, zt_iload 8), (170, 173, zt_putI 15 6), (173, 174, zt_aload 0), (174, 175, zt_aload 0), (175, 178, zt_getL 16 3), (178, 180, zt_iload 9), (180, 182, zt_iload 10), (182, 183, zt_iload 3), (183, 186, zt_callVF mX8_build 4 16), (186, 188, zt_aload 7), (188, 190, zt_iload 8), (190, 191, zt_aald), (191, 193, zt_iload 11), (193, 194, zt_aload 0), (194, 197, zt_getL 16 3), (197, 200, zt_getL 15 0), (200, 202, zt_iload 11), (202, 203, zt_iald), (203, 204, zt_iastoreF), (204, 207, zt_iincF 10 1), (207, 210, zt_goto 135), (210, 213, zt_iincF 9 1), (213, 216, zt_goto 121), (216, 219, zt_iincF 8 1), (219, 222, zt_goto 91), (222, 223, zt_aload 0), (223, 226, zt_getL 16 10), (226, 227, zt_iload 3), (227, 228, zt_aload 0), (228, 231, zt_getL 16 10), (231, 232, zt_iload 3), (232, 233, zt_iald), (233, 235, zt_iload 6), (235, 238, zt_max), (238, 239, zt_iastoreF), (239, 241, zt_aload 4), (241, 243, zt_iload 5), (243, 246, zt_putI 15 5), (246, 248, zt_aload 4), (248, 250, zt_iload 6), (250, 253, zt_putI 15 6), (253, 255, zt_aload 4), (255, 256, zt_ic 1), (256, 259, zt_putZ 15 7), (259, 260, zt_aload 0), (260, 262, zt_aload 4), (262, 263, zt_ic 0), (263, 264, zt_ic 0), (264, 265, zt_iload 3), (265, 268, zt_callVF mX8_build 4 16), (268, 270, zt_aload 4), (270, 271, zt_aret)]
theorem TX8_reckon_ok : ∀ i ∈ TX8_reckon, Ent mX8_reckon i := by
  refine List.forall_mem_cons.mpr ⟨ze_aload_n (k := 0) (by decide +kernel) rfl, ?_⟩
  refine List.forall_mem_cons.mpr ⟨ze_aload_n (k := 1) (by decide +kernel) rfl, ?_⟩
  refine List.forall_mem_cons.mpr ⟨ze_iload_n (k := 2) (by decide +kernel) rfl, ?_⟩
  refine List.forall_mem_cons.mpr ⟨ze_callVF (idx := 104) (by decide +kernel) ml_X8_104 mv_X8_look rfl, ?_⟩
  refine List.forall_mem_cons.mpr ⟨ze_iload_n (k := 3) (by decide +kernel) rfl, ?_⟩
  refine List.forall_mem_cons.mpr ⟨ze_iconst (n := 1) (by decide +kernel) (by decide), ?_⟩
  refine List.forall_mem_cons.mpr ⟨ze_icmp_ne (off := 10) (by decide +kernel) (by decide), ?_⟩
  refine List.forall_mem_cons.mpr ⟨ze_aload_n (k := 0) (by decide +kernel) rfl, ?_⟩
  refine List.forall_mem_cons.mpr ⟨ze_getL (by decide +kernel) fl_X8_31 rfl (by decide), ?_⟩
  refine List.forall_mem_cons.mpr ⟨ze_goto (off := 7) (by decide +kernel) (by decide), ?_⟩
  refine List.forall_mem_cons.mpr ⟨ze_aload_n (k := 0) (by decide +kernel) rfl, ?_⟩
  refine List.forall_mem_cons.mpr ⟨ze_getL (by decide +kernel) fl_X8_28 rfl (by decide), ?_⟩
  refine List.forall_mem_cons.mpr ⟨ze_astoreF (by decide +kernel) (by decide), ?_⟩
  refine List.forall_mem_cons.mpr ⟨ze_aload_n (k := 1) (by decide +kernel) rfl, ?_⟩
  refine List.forall_mem_cons.mpr ⟨ze_iconst (n := 2) (by decide +kernel) (by decide), ?_⟩
  refine List.forall_mem_cons.mpr ⟨ze_iald (by decide +kernel), ?_⟩
  refine List.forall_mem_cons.mpr ⟨ze_istoreF (by decide +kernel) (by decide), ?_⟩
  refine List.forall_mem_cons.mpr ⟨ze_aload_n (k := 1) (by decide +kernel) rfl, ?_⟩
  refine List.forall_mem_cons.mpr ⟨ze_iconst (n := 3) (by decide +kernel) (by decide), ?_⟩
  refine List.forall_mem_cons.mpr ⟨ze_iald (by decide +kernel), ?_⟩
  refine List.forall_mem_cons.mpr ⟨ze_istoreF (by decide +kernel) (by decide), ?_⟩
  refine List.forall_mem_cons.mpr ⟨ze_aload (by decide +kernel), ?_⟩
  refine List.forall_mem_cons.mpr ⟨ze_getI (by decide +kernel) fl_X8_77 rfl, ?_⟩
  refine List.forall_mem_cons.mpr ⟨ze_if_eq (off := 26) (by decide +kernel) (by decide), ?_⟩
  refine List.forall_mem_cons.mpr ⟨ze_aload (by decide +kernel), ?_⟩
  refine List.forall_mem_cons.mpr ⟨ze_getI (by decide +kernel) fl_X8_108 rfl, ?_⟩
  refine List.forall_mem_cons.mpr ⟨ze_iload (by decide +kernel), ?_⟩
  refine List.forall_mem_cons.mpr ⟨ze_icmp_ne (off := 16) (by decide +kernel) (by decide), ?_⟩
  refine List.forall_mem_cons.mpr ⟨ze_aload (by decide +kernel), ?_⟩
  refine List.forall_mem_cons.mpr ⟨ze_getI (by decide +kernel) fl_X8_112 rfl, ?_⟩
  refine List.forall_mem_cons.mpr ⟨ze_iload (by decide +kernel), ?_⟩
  refine List.forall_mem_cons.mpr ⟨ze_icmp_ne (off := 6) (by decide +kernel) (by decide), ?_⟩
  refine List.forall_mem_cons.mpr ⟨ze_aload (by decide +kernel), ?_⟩
  refine List.forall_mem_cons.mpr ⟨ze_aret (cs := "RefundDesk$Table") (by decide +kernel) rfl, ?_⟩
  refine List.forall_mem_cons.mpr ⟨ze_iload_n (k := 3) (by decide +kernel) rfl, ?_⟩
  refine List.forall_mem_cons.mpr ⟨ze_iconst (n := 1) (by decide +kernel) (by decide), ?_⟩
  refine List.forall_mem_cons.mpr ⟨ze_icmp_ne (off := 10) (by decide +kernel) (by decide), ?_⟩
  refine List.forall_mem_cons.mpr ⟨ze_aload_n (k := 0) (by decide +kernel) rfl, ?_⟩
  refine List.forall_mem_cons.mpr ⟨ze_getL (by decide +kernel) fl_X8_44 rfl (by decide), ?_⟩
  refine List.forall_mem_cons.mpr ⟨ze_goto (off := 7) (by decide +kernel) (by decide), ?_⟩
  refine List.forall_mem_cons.mpr ⟨ze_aload_n (k := 0) (by decide +kernel) rfl, ?_⟩
  refine List.forall_mem_cons.mpr ⟨ze_getL (by decide +kernel) fl_X8_41 rfl (by decide), ?_⟩
  refine List.forall_mem_cons.mpr ⟨ze_astoreF (by decide +kernel) (by decide), ?_⟩
  refine List.forall_mem_cons.mpr ⟨ze_aload_n (k := 0) (by decide +kernel) rfl, ?_⟩
  refine List.forall_mem_cons.mpr ⟨ze_getL (by decide +kernel) fl_X8_47 rfl (by decide), ?_⟩
  refine List.forall_mem_cons.mpr ⟨ze_iload_n (k := 3) (by decide +kernel) rfl, ?_⟩
  refine List.forall_mem_cons.mpr ⟨ze_iald (by decide +kernel), ?_⟩
  refine List.forall_mem_cons.mpr ⟨ze_istoreF (by decide +kernel) (by decide), ?_⟩
  refine List.forall_mem_cons.mpr ⟨ze_iload (by decide +kernel), ?_⟩
  refine List.forall_mem_cons.mpr ⟨ze_iload (by decide +kernel), ?_⟩
  refine List.forall_mem_cons.mpr ⟨ze_icmp_ge (off := 127) (by decide +kernel) (by decide), ?_⟩
  refine List.forall_mem_cons.mpr ⟨ze_iload (by decide +kernel), ?_⟩
  refine List.forall_mem_cons.mpr ⟨ze_iconst (n := 2) (by decide +kernel) (by decide), ?_⟩
  refine List.forall_mem_cons.mpr ⟨ze_icmp_ge (off := 121) (by decide +kernel) (by decide), ?_⟩
  refine List.forall_mem_cons.mpr ⟨ze_aload_n (k := 0) (by decide +kernel) rfl, ?_⟩
  refine List.forall_mem_cons.mpr ⟨ze_getL (by decide +kernel) fl_X8_50 rfl (by decide), ?_⟩
  refine List.forall_mem_cons.mpr ⟨ze_bipush (n := 9) (by decide +kernel) (by decide), ?_⟩
  refine List.forall_mem_cons.mpr ⟨ze_iald (by decide +kernel), ?_⟩
  refine List.forall_mem_cons.mpr ⟨ze_aload_n (k := 0) (by decide +kernel) rfl, ?_⟩
  refine List.forall_mem_cons.mpr ⟨ze_getL (by decide +kernel) fl_X8_50 rfl (by decide), ?_⟩
  refine List.forall_mem_cons.mpr ⟨ze_bipush (n := 10) (by decide +kernel) (by decide), ?_⟩
  refine List.forall_mem_cons.mpr ⟨ze_iald (by decide +kernel), ?_⟩
  refine List.forall_mem_cons.mpr ⟨ze_iadd (by decide +kernel), ?_⟩
  refine List.forall_mem_cons.mpr ⟨ze_istoreF (by decide +kernel) (by decide), ?_⟩
  refine List.forall_mem_cons.mpr ⟨ze_iload (by decide +kernel), ?_⟩
  refine List.forall_mem_cons.mpr ⟨ze_aload_n (k := 0) (by decide +kernel) rfl, ?_⟩
  refine List.forall_mem_cons.mpr ⟨ze_getL (by decide +kernel) fl_X8_50 rfl (by decide), ?_⟩
  refine List.forall_mem_cons.mpr ⟨ze_iconst (n := 1) (by decide +kernel) (by decide), ?_⟩
  refine List.forall_mem_cons.mpr ⟨ze_iald (by decide +kernel), ?_⟩
  refine List.forall_mem_cons.mpr ⟨ze_icmp_ge (off := 87) (by decide +kernel) (by decide), ?_⟩
  refine List.forall_mem_cons.mpr ⟨ze_iconst (n := 0) (by decide +kernel) (by decide), ?_⟩
  refine List.forall_mem_cons.mpr ⟨ze_istoreF (by decide +kernel) (by decide), ?_⟩
  refine List.forall_mem_cons.mpr ⟨ze_iload (by decide +kernel), ?_⟩
  refine List.forall_mem_cons.mpr ⟨ze_iload (by decide +kernel), ?_⟩
  refine List.forall_mem_cons.mpr ⟨ze_icmp_gt (off := 71) (by decide +kernel) (by decide), ?_⟩
  refine List.forall_mem_cons.mpr ⟨ze_iload (by decide +kernel), ?_⟩
  refine List.forall_mem_cons.mpr ⟨ze_iload (by decide +kernel), ?_⟩
  refine List.forall_mem_cons.mpr ⟨ze_callSF (idx := 115) (by decide +kernel) ml_X8_115 ms_X8_nodeOf, ?_⟩
  refine List.forall_mem_cons.mpr ⟨ze_istoreF (by decide +kernel) (by decide), ?_⟩
  refine List.forall_mem_cons.mpr ⟨ze_aload_n (k := 0) (by decide +kernel) rfl, ?_⟩
  refine List.forall_mem_cons.mpr ⟨ze_getL (by decide +kernel) fl_X8_24 rfl (by decide), ?_⟩
  refine List.forall_mem_cons.mpr ⟨ze_aload_n (k := 0) (by decide +kernel) rfl, ?_⟩
  refine List.forall_mem_cons.mpr ⟨ze_iload (by decide +kernel), ?_⟩
  refine List.forall_mem_cons.mpr ⟨ze_callVF (idx := 118) (by decide +kernel) ml_X8_118 mv_X8_couponOfNode rfl, ?_⟩
  refine List.forall_mem_cons.mpr ⟨ze_putI (by decide +kernel) fl_X8_108 ⟨_, _, _, rfl, rfl, by decide +kernel⟩ rfl, ?_⟩
  refine List.forall_mem_cons.mpr ⟨ze_aload_n (k := 0) (by decide +kernel) rfl, ?_⟩
  refine List.forall_mem_cons.mpr ⟨ze_getL (by decide +kernel) fl_X8_24 rfl (by decide), ?_⟩
  refine List.forall_mem_cons.mpr ⟨ze_iload (by decide +kernel), ?_⟩
  refine List.forall_mem_cons.mpr ⟨ze_putI (by decide +kernel) fl_X8_112 ⟨_, _, _, rfl, rfl, by decide +kernel⟩ rfl, ?_⟩
  refine List.forall_mem_cons.mpr ⟨ze_aload_n (k := 0) (by decide +kernel) rfl, ?_⟩
  refine List.forall_mem_cons.mpr ⟨ze_aload_n (k := 0) (by decide +kernel) rfl, ?_⟩
  refine List.forall_mem_cons.mpr ⟨ze_getL (by decide +kernel) fl_X8_24 rfl (by decide), ?_⟩
  refine List.forall_mem_cons.mpr ⟨ze_iload (by decide +kernel), ?_⟩
  refine List.forall_mem_cons.mpr ⟨ze_iload (by decide +kernel), ?_⟩
  refine List.forall_mem_cons.mpr ⟨ze_iload_n (k := 3) (by decide +kernel) rfl, ?_⟩
  refine List.forall_mem_cons.mpr ⟨ze_callVF (idx := 121) (by decide +kernel) ml_X8_121 mv_X8_build rfl, ?_⟩
  refine List.forall_mem_cons.mpr ⟨ze_aload (by decide +kernel), ?_⟩
  refine List.forall_mem_cons.mpr ⟨ze_iload (by decide +kernel), ?_⟩
  refine List.forall_mem_cons.mpr ⟨ze_aald (by decide +kernel), ?_⟩
  refine List.forall_mem_cons.mpr ⟨ze_iload (by decide +kernel), ?_⟩
  refine List.forall_mem_cons.mpr ⟨ze_aload_n (k := 0) (by decide +kernel) rfl, ?_⟩
  refine List.forall_mem_cons.mpr ⟨ze_getL (by decide +kernel) fl_X8_24 rfl (by decide), ?_⟩
  refine List.forall_mem_cons.mpr ⟨ze_getL (by decide +kernel) fl_X8_125 rfl (by decide), ?_⟩
  refine List.forall_mem_cons.mpr ⟨ze_iload (by decide +kernel), ?_⟩
  refine List.forall_mem_cons.mpr ⟨ze_iald (by decide +kernel), ?_⟩
  refine List.forall_mem_cons.mpr ⟨ze_iastoreF (by decide +kernel), ?_⟩
  refine List.forall_mem_cons.mpr ⟨ze_iincF (n := 1) (by decide +kernel) (by decide) (by decide), ?_⟩
  refine List.forall_mem_cons.mpr ⟨ze_goto (off := -72) (by decide +kernel) (by decide), ?_⟩
  refine List.forall_mem_cons.mpr ⟨ze_iincF (n := 1) (by decide +kernel) (by decide) (by decide), ?_⟩
  refine List.forall_mem_cons.mpr ⟨ze_goto (off := -92) (by decide +kernel) (by decide), ?_⟩
  refine List.forall_mem_cons.mpr ⟨ze_iincF (n := 1) (by decide +kernel) (by decide) (by decide), ?_⟩
  refine List.forall_mem_cons.mpr ⟨ze_goto (off := -128) (by decide +kernel) (by decide), ?_⟩
  refine List.forall_mem_cons.mpr ⟨ze_aload_n (k := 0) (by decide +kernel) rfl, ?_⟩
  refine List.forall_mem_cons.mpr ⟨ze_getL (by decide +kernel) fl_X8_47 rfl (by decide), ?_⟩
  refine List.forall_mem_cons.mpr ⟨ze_iload_n (k := 3) (by decide +kernel) rfl, ?_⟩
  refine List.forall_mem_cons.mpr ⟨ze_aload_n (k := 0) (by decide +kernel) rfl, ?_⟩
  refine List.forall_mem_cons.mpr ⟨ze_getL (by decide +kernel) fl_X8_47 rfl (by decide), ?_⟩
  refine List.forall_mem_cons.mpr ⟨ze_iload_n (k := 3) (by decide +kernel) rfl, ?_⟩
  refine List.forall_mem_cons.mpr ⟨ze_iald (by decide +kernel), ?_⟩
  refine List.forall_mem_cons.mpr ⟨ze_iload (by decide +kernel), ?_⟩
  refine List.forall_mem_cons.mpr ⟨ze_max (idx := 59) (by decide +kernel) ml_X8_59 jmx.1 jmx.2.1 jmx.2.2, ?_⟩
  refine List.forall_mem_cons.mpr ⟨ze_iastoreF (by decide +kernel), ?_⟩
  refine List.forall_mem_cons.mpr ⟨ze_aload (by decide +kernel), ?_⟩
  refine List.forall_mem_cons.mpr ⟨ze_iload (by decide +kernel), ?_⟩
  refine List.forall_mem_cons.mpr ⟨ze_putI (by decide +kernel) fl_X8_108 ⟨_, _, _, rfl, rfl, by decide +kernel⟩ rfl, ?_⟩
  refine List.forall_mem_cons.mpr ⟨ze_aload (by decide +kernel), ?_⟩
  refine List.forall_mem_cons.mpr ⟨ze_iload (by decide +kernel), ?_⟩
  refine List.forall_mem_cons.mpr ⟨ze_putI (by decide +kernel) fl_X8_112 ⟨_, _, _, rfl, rfl, by decide +kernel⟩ rfl, ?_⟩
  refine List.forall_mem_cons.mpr ⟨ze_aload (by decide +kernel), ?_⟩
  refine List.forall_mem_cons.mpr ⟨ze_iconst (n := 1) (by decide +kernel) (by decide), ?_⟩
  refine List.forall_mem_cons.mpr ⟨ze_putZ (by decide +kernel) fl_X8_77 ⟨_, _, _, rfl, rfl, by decide +kernel⟩ rfl, ?_⟩
  refine List.forall_mem_cons.mpr ⟨ze_aload_n (k := 0) (by decide +kernel) rfl, ?_⟩
  refine List.forall_mem_cons.mpr ⟨ze_aload (by decide +kernel), ?_⟩
  refine List.forall_mem_cons.mpr ⟨ze_iconst (n := 0) (by decide +kernel) (by decide), ?_⟩
  refine List.forall_mem_cons.mpr ⟨ze_iconst (n := 0) (by decide +kernel) (by decide), ?_⟩
  refine List.forall_mem_cons.mpr ⟨ze_iload_n (k := 3) (by decide +kernel) rfl, ?_⟩
  refine List.forall_mem_cons.mpr ⟨ze_callVF (idx := 121) (by decide +kernel) ml_X8_121 mv_X8_build rfl, ?_⟩
  refine List.forall_mem_cons.mpr ⟨ze_aload (by decide +kernel), ?_⟩
  refine List.forall_mem_cons.mpr ⟨ze_aret (cs := "RefundDesk$Table") (by decide +kernel) rfl, ?_⟩
  exact fun _ h => absurd h List.not_mem_nil
theorem vX8_reckon {l : Launch} {G : GT} {d : Nat} {av : List Value} {Q : Po} {σ : Mm} (cs : List (Nat × List Nat)) (k : Nat) (h : vc l G d mX8_reckon TX8_reckon Q cs k TX8_reckon (lv_args 0 av) [] σ) (hlen : (lg_sl av).length ≤ mX8_reckon.2.2.1 := by exact Nat.le_of_ble_eq_true rfl) : MW l G d mX8_reckon av σ Q := mw_vc TX8_reckon_ok mc_X8_reckon rfl hlen cs k rfl h
theorem wX8_reckon {l : Launch} {G : GT} {d : Nat} {Q : Po} {pc : Nat} {lv : Lv} {st : List Value} {σ : Mm} (cs : List (Nat × List Nat)) (k : Nat) (h : vc l G d mX8_reckon TX8_reckon Q cs k (drp TX8_reckon pc) lv st σ) (hpc : hdp (drp TX8_reckon pc) = pc := by rfl) : Wp l G d mX8_reckon pc lv st σ Q := wp_vc TX8_reckon_ok cs k hpc h
def TX8_build : List In := [(0, 1, zt_aload 0), (1, 4, zt_getL 16 6), (4, 5, zt_ic 1), (5, 6, zt_iald), (6, 8, zt_istoreF 5), (8, 10, zt_iload 5), (10, 11, zt_iload 3), (11, 14, zt_callSF mX8_nodeOf 2), (14, 16, zt_istoreF 6), (16, 17, zt_aload 1), (17, 20, zt_getL 15 0), (20, 22, zt_iload 6), (22, 24, zt_iload 6), (24, 26, zt_iload 5), (26, 27, zt_iadd), (27, 28, zt_iload 2), (28, 29, zt_isub), (29, 30, zt_ic 1), (30, 31, zt_iadd), (31, 32, zt_ic 0), (32, 35, zt_callSF mJ7_fill_fda19 4), (35, 37, zt_iload 5), (37, 38, zt_ic 1), (38, 39, zt_isub), (39, 41, zt_istoreF 7), (41, 43, zt_iload 7), (43, 44, zt_iload 2), (44, 47, zt_icmp_lt 209), (47, 48, zt_aload 0), (48, 50, zt_iload 7), (50, 51, zt_ic 1), (51, 52, zt_iadd), (52, 53, zt_aload 1), (53, 56, zt_getI 15 5), (56, 59, zt_callVF mX8_dueAt 2 16), (59, 61, zt_istoreF 8), (61, 63, zt_iload 4), (63, 64, zt_ic 2), (64, 67, zt_icmp_ne 71), (67, 68, zt_ic 0), (68, 71, zt_goto 81), (71, 72, zt_aload 0), (72, 74, zt_iload 7), (74, 75, zt_aload 1), (75, 78, zt_getI 15 6), (78, 81, zt_callVF mX8_lastAllowed 2 16), (81, 83, zt_istoreF 9), (83, 85, zt_iload 7), (85, 86, zt_iload 3), (86, 89, zt_callSF mX8_nodeOf 2), (89, 91, zt_istoreF 10), (91, 92, zt_ic 0), (92, 94, zt_istoreF 11), (94, 96, zt_iload 11), (96, 98, zt_iload 7), (98, 99, zt_iload 2), (99, 100, zt_isub), (100, 103, zt_icmp_gt 203), (103, 105, zt_iload 10), (105, 107, zt_iload 11), (107, 108, zt_iadd), (108, 110, zt_istoreF 12), (110, 111, zt_aload 0), (111, 112, zt_aload 1), (112, 114, zt_iload 7), (114, 116, zt_iload 12), (116, 118, zt_iload 8), (118, 120, zt_iload 4), (120, 123, zt_callVF mX8_reckonDeeds 5 16), (123, 125, zt_iload 4), (125, 126, zt_ic 1), (126, 129, zt_icmp_ne 145), (129, 130, zt_aload 0), (130, 133, zt_getL 16 7), (133, 135, zt_iload 7), (135, 136, zt_iload 3), (136, 138, zt_iload 11), (138, 139, zt_iadd), (139, 142, zt_callSF mX0_deedOf 3), (142, 145, zt_goto 154), (145, 146, zt_aload 0), (146, 147, zt_aload 1), (147, 149, zt_iload 12), (149, 151, zt_iload 9), (151, 154, zt_callVF mX8_leastDeed 3 16), (154, 156, zt_istoreF 13), (156, 157, zt_aload 1), (157, 160, zt_getL 15 2), (160, 162, zt_iload 12), (162, 164, zt_iload 13), (164, 166, zt_iload 9), (166, 169, zt_icmp_gt 174), (169, 171, zt_iload 13), (171, 174, zt_goto 175), (174, 175, zt_ic 0), (175, 176, zt_iastoreF), (176, 177, zt_aload 1), (177, 180, zt_getL 15 0), (180, 182, zt_iload 12), (182, 183, zt_aload 0), (183, 184, zt_aload 1), (184, 186, zt_iload 12), (186, 187, zt_aload 1), (187, 190, zt_getL 15 2), (190, 192, zt_iload 12), (192, 193, zt_iald), (193, 196, zt_callVF mX8_costOf 3 16), (196, 197, zt_iastoreF), (197, 200, zt_iincF 11 1), (200, 203, zt_goto 94), (203, 206, zt_iincF 7 (-1)), (206, 209, zt_goto 41), (209, 210, zt_vret)]
theorem TX8_build_ok : ∀ i ∈ TX8_build, Ent mX8_build i := by
  refine List.forall_mem_cons.mpr ⟨ze_aload_n (k := 0) (by decide +kernel) rfl, ?_⟩
  refine List.forall_mem_cons.mpr ⟨ze_getL (by decide +kernel) fl_X8_50 rfl (by decide), ?_⟩
  refine List.forall_mem_cons.mpr ⟨ze_iconst (n := 1) (by decide +kernel) (by decide), ?_⟩
  refine List.forall_mem_cons.mpr ⟨ze_iald (by decide +kernel), ?_⟩
  refine List.forall_mem_cons.mpr ⟨ze_istoreF (by decide +kernel) (by decide), ?_⟩
  refine List.forall_mem_cons.mpr ⟨ze_iload (by decide +kernel), ?_⟩
  refine List.forall_mem_cons.mpr ⟨ze_iload_n (k := 3) (by decide +kernel) rfl, ?_⟩
  refine List.forall_mem_cons.mpr ⟨ze_callSF (idx := 115) (by decide +kernel) ml_X8_115 ms_X8_nodeOf, ?_⟩
  refine List.forall_mem_cons.mpr ⟨ze_istoreF (by decide +kernel) (by decide), ?_⟩
  refine List.forall_mem_cons.mpr ⟨ze_aload_n (k := 1) (by decide +kernel) rfl, ?_⟩
  refine List.forall_mem_cons.mpr ⟨ze_getL (by decide +kernel) fl_X8_125 rfl (by decide), ?_⟩
  refine List.forall_mem_cons.mpr ⟨ze_iload (by decide +kernel), ?_⟩
  refine List.forall_mem_cons.mpr ⟨ze_iload (by decide +kernel), ?_⟩
  refine List.forall_mem_cons.mpr ⟨ze_iload (by decide +kernel), ?_⟩
  refine List.forall_mem_cons.mpr ⟨ze_iadd (by decide +kernel), ?_⟩
  refine List.forall_mem_cons.mpr ⟨ze_iload_n (k := 2) (by decide +kernel) rfl, ?_⟩
  refine List.forall_mem_cons.mpr ⟨ze_isub (by decide +kernel), ?_⟩
  refine List.forall_mem_cons.mpr ⟨ze_iconst (n := 1) (by decide +kernel) (by decide), ?_⟩
  refine List.forall_mem_cons.mpr ⟨ze_iadd (by decide +kernel), ?_⟩
  refine List.forall_mem_cons.mpr ⟨ze_iconst (n := 0) (by decide +kernel) (by decide), ?_⟩
  refine List.forall_mem_cons.mpr ⟨ze_callSF (idx := 128) (by decide +kernel) ml_X8_128 ms_J7_fill_fda19, ?_⟩
  refine List.forall_mem_cons.mpr ⟨ze_iload (by decide +kernel), ?_⟩
  refine List.forall_mem_cons.mpr ⟨ze_iconst (n := 1) (by decide +kernel) (by decide), ?_⟩
  refine List.forall_mem_cons.mpr ⟨ze_isub (by decide +kernel), ?_⟩
  refine List.forall_mem_cons.mpr ⟨ze_istoreF (by decide +kernel) (by decide), ?_⟩
  refine List.forall_mem_cons.mpr ⟨ze_iload (by decide +kernel), ?_⟩
  refine List.forall_mem_cons.mpr ⟨ze_iload_n (k := 2) (by decide +kernel) rfl, ?_⟩
  refine List.forall_mem_cons.mpr ⟨ze_icmp_lt (off := 165) (by decide +kernel) (by decide), ?_⟩
  refine List.forall_mem_cons.mpr ⟨ze_aload_n (k := 0) (by decide +kernel) rfl, ?_⟩
  refine List.forall_mem_cons.mpr ⟨ze_iload (by decide +kernel), ?_⟩
  refine List.forall_mem_cons.mpr ⟨ze_iconst (n := 1) (by decide +kernel) (by decide), ?_⟩
  refine List.forall_mem_cons.mpr ⟨ze_iadd (by decide +kernel), ?_⟩
  refine List.forall_mem_cons.mpr ⟨ze_aload_n (k := 1) (by decide +kernel) rfl, ?_⟩
  refine List.forall_mem_cons.mpr ⟨ze_getI (by decide +kernel) fl_X8_108 rfl, ?_⟩
  refine List.forall_mem_cons.mpr ⟨ze_callVF (idx := 134) (by decide +kernel) ml_X8_134 mv_X8_dueAt rfl, ?_⟩
  refine List.forall_mem_cons.mpr ⟨ze_istoreF (by decide +kernel) (by decide), ?_⟩
  refine List.forall_mem_cons.mpr ⟨ze_iload (by decide +kernel), ?_⟩
  refine List.forall_mem_cons.mpr ⟨ze_iconst (n := 2) (by decide +kernel) (by decide), ?_⟩
  refine List.forall_mem_cons.mpr ⟨ze_icmp_ne (off := 7) (by decide +kernel) (by decide), ?_⟩
  refine List.forall_mem_cons.mpr ⟨ze_iconst (n := 0) (by decide +kernel) (by decide), ?_⟩
  refine List.forall_mem_cons.mpr ⟨ze_goto (off := 13) (by decide +kernel) (by decide), ?_⟩
  refine List.forall_mem_cons.mpr ⟨ze_aload_n (k := 0) (by decide +kernel) rfl, ?_⟩
  refine List.forall_mem_cons.mpr ⟨ze_iload (by decide +kernel), ?_⟩
  refine List.forall_mem_cons.mpr ⟨ze_aload_n (k := 1) (by decide +kernel) rfl, ?_⟩
  refine List.forall_mem_cons.mpr ⟨ze_getI (by decide +kernel) fl_X8_112 rfl, ?_⟩
  refine List.forall_mem_cons.mpr ⟨ze_callVF (idx := 137) (by decide +kernel) ml_X8_137 mv_X8_lastAllowed rfl, ?_⟩
  refine List.forall_mem_cons.mpr ⟨ze_istoreF (by decide +kernel) (by decide), ?_⟩
  refine List.forall_mem_cons.mpr ⟨ze_iload (by decide +kernel), ?_⟩
  refine List.forall_mem_cons.mpr ⟨ze_iload_n (k := 3) (by decide +kernel) rfl, ?_⟩
  refine List.forall_mem_cons.mpr ⟨ze_callSF (idx := 115) (by decide +kernel) ml_X8_115 ms_X8_nodeOf, ?_⟩
  refine List.forall_mem_cons.mpr ⟨ze_istoreF (by decide +kernel) (by decide), ?_⟩
  refine List.forall_mem_cons.mpr ⟨ze_iconst (n := 0) (by decide +kernel) (by decide), ?_⟩
  refine List.forall_mem_cons.mpr ⟨ze_istoreF (by decide +kernel) (by decide), ?_⟩
  refine List.forall_mem_cons.mpr ⟨ze_iload (by decide +kernel), ?_⟩
  refine List.forall_mem_cons.mpr ⟨ze_iload (by decide +kernel), ?_⟩
  refine List.forall_mem_cons.mpr ⟨ze_iload_n (k := 2) (by decide +kernel) rfl, ?_⟩
  refine List.forall_mem_cons.mpr ⟨ze_isub (by decide +kernel), ?_⟩
  refine List.forall_mem_cons.mpr ⟨ze_icmp_gt (off := 103) (by decide +kernel) (by decide), ?_⟩
  refine List.forall_mem_cons.mpr ⟨ze_iload (by decide +kernel), ?_⟩
  refine List.forall_mem_cons.mpr ⟨ze_iload (by decide +kernel), ?_⟩
  refine List.forall_mem_cons.mpr ⟨ze_iadd (by decide +kernel), ?_⟩
  refine List.forall_mem_cons.mpr ⟨ze_istoreF (by decide +kernel) (by decide), ?_⟩
  refine List.forall_mem_cons.mpr ⟨ze_aload_n (k := 0) (by decide +kernel) rfl, ?_⟩
  refine List.forall_mem_cons.mpr ⟨ze_aload_n (k := 1) (by decide +kernel) rfl, ?_⟩
  refine List.forall_mem_cons.mpr ⟨ze_iload (by decide +kernel), ?_⟩
  refine List.forall_mem_cons.mpr ⟨ze_iload (by decide +kernel), ?_⟩
  refine List.forall_mem_cons.mpr ⟨ze_iload (by decide +kernel), ?_⟩
  refine List.forall_mem_cons.mpr ⟨ze_iload (by decide +kernel), ?_⟩
  refine List.forall_mem_cons.mpr ⟨ze_callVF (idx := 140) (by decide +kernel) ml_X8_140 mv_X8_reckonDeeds rfl, ?_⟩
  refine List.forall_mem_cons.mpr ⟨ze_iload (by decide +kernel), ?_⟩
  refine List.forall_mem_cons.mpr ⟨ze_iconst (n := 1) (by decide +kernel) (by decide), ?_⟩
  refine List.forall_mem_cons.mpr ⟨ze_icmp_ne (off := 19) (by decide +kernel) (by decide), ?_⟩
  refine List.forall_mem_cons.mpr ⟨ze_aload_n (k := 0) (by decide +kernel) rfl, ?_⟩
  refine List.forall_mem_cons.mpr ⟨ze_getL (by decide +kernel) fl_X8_36 rfl (by decide), ?_⟩
  refine List.forall_mem_cons.mpr ⟨ze_iload (by decide +kernel), ?_⟩
  refine List.forall_mem_cons.mpr ⟨ze_iload_n (k := 3) (by decide +kernel) rfl, ?_⟩
  refine List.forall_mem_cons.mpr ⟨ze_iload (by decide +kernel), ?_⟩
  refine List.forall_mem_cons.mpr ⟨ze_iadd (by decide +kernel), ?_⟩
  refine List.forall_mem_cons.mpr ⟨ze_callSF (idx := 144) (by decide +kernel) ml_X8_144 ms_X0_deedOf, ?_⟩
  refine List.forall_mem_cons.mpr ⟨ze_goto (off := 12) (by decide +kernel) (by decide), ?_⟩
  refine List.forall_mem_cons.mpr ⟨ze_aload_n (k := 0) (by decide +kernel) rfl, ?_⟩
  refine List.forall_mem_cons.mpr ⟨ze_aload_n (k := 1) (by decide +kernel) rfl, ?_⟩
  refine List.forall_mem_cons.mpr ⟨ze_iload (by decide +kernel), ?_⟩
  refine List.forall_mem_cons.mpr ⟨ze_iload (by decide +kernel), ?_⟩
  refine List.forall_mem_cons.mpr ⟨ze_callVF (idx := 148) (by decide +kernel) ml_X8_148 mv_X8_leastDeed rfl, ?_⟩
  refine List.forall_mem_cons.mpr ⟨ze_istoreF (by decide +kernel) (by decide), ?_⟩
  refine List.forall_mem_cons.mpr ⟨ze_aload_n (k := 1) (by decide +kernel) rfl, ?_⟩
  refine List.forall_mem_cons.mpr ⟨ze_getL (by decide +kernel) fl_X8_152 rfl (by decide), ?_⟩
  refine List.forall_mem_cons.mpr ⟨ze_iload (by decide +kernel), ?_⟩
  refine List.forall_mem_cons.mpr ⟨ze_iload (by decide +kernel), ?_⟩
  refine List.forall_mem_cons.mpr ⟨ze_iload (by decide +kernel), ?_⟩
  refine List.forall_mem_cons.mpr ⟨ze_icmp_gt (off := 8) (by decide +kernel) (by decide), ?_⟩
  refine List.forall_mem_cons.mpr ⟨ze_iload (by decide +kernel), ?_⟩
  refine List.forall_mem_cons.mpr ⟨ze_goto (off := 4) (by decide +kernel) (by decide), ?_⟩
  refine List.forall_mem_cons.mpr ⟨ze_iconst (n := 0) (by decide +kernel) (by decide), ?_⟩
  refine List.forall_mem_cons.mpr ⟨ze_iastoreF (by decide +kernel), ?_⟩
  refine List.forall_mem_cons.mpr ⟨ze_aload_n (k := 1) (by decide +kernel) rfl, ?_⟩
  refine List.forall_mem_cons.mpr ⟨ze_getL (by decide +kernel) fl_X8_125 rfl (by decide), ?_⟩
  refine List.forall_mem_cons.mpr ⟨ze_iload (by decide +kernel), ?_⟩
  refine List.forall_mem_cons.mpr ⟨ze_aload_n (k := 0) (by decide +kernel) rfl, ?_⟩
  refine List.forall_mem_cons.mpr ⟨ze_aload_n (k := 1) (by decide +kernel) rfl, ?_⟩
  refine List.forall_mem_cons.mpr ⟨ze_iload (by decide +kernel), ?_⟩
  refine List.forall_mem_cons.mpr ⟨ze_aload_n (k := 1) (by decide +kernel) rfl, ?_⟩
  refine List.forall_mem_cons.mpr ⟨ze_getL (by decide +kernel) fl_X8_152 rfl (by decide), ?_⟩
  refine List.forall_mem_cons.mpr ⟨ze_iload (by decide +kernel), ?_⟩
  refine List.forall_mem_cons.mpr ⟨ze_iald (by decide +kernel), ?_⟩
  refine List.forall_mem_cons.mpr ⟨ze_callVF (idx := 155) (by decide +kernel) ml_X8_155 mv_X8_costOf rfl, ?_⟩
  refine List.forall_mem_cons.mpr ⟨ze_iastoreF (by decide +kernel), ?_⟩
  refine List.forall_mem_cons.mpr ⟨ze_iincF (n := 1) (by decide +kernel) (by decide) (by decide), ?_⟩
  refine List.forall_mem_cons.mpr ⟨ze_goto (off := -106) (by decide +kernel) (by decide), ?_⟩
  refine List.forall_mem_cons.mpr ⟨ze_iincF (n := -1) (by decide +kernel) (by decide) (by decide), ?_⟩
  refine List.forall_mem_cons.mpr ⟨ze_goto (off := -165) (by decide +kernel) (by decide), ?_⟩
  refine List.forall_mem_cons.mpr ⟨ze_vret (by decide +kernel) rfl, ?_⟩
  exact fun _ h => absurd h List.not_mem_nil
theorem vX8_build {l : Launch} {G : GT} {d : Nat} {av : List Value} {Q : Po} {σ : Mm} (cs : List (Nat × List Nat)) (k : Nat) (h : vc l G d mX8_build TX8_build Q cs k TX8_build (lv_args 0 av) [] σ) (hlen : (lg_sl av).length ≤ mX8_build.2.2.1 := by exact Nat.le_of_ble_eq_true rfl) : MW l G d mX8_build av σ Q := mw_vc TX8_build_ok mc_X8_build rfl hlen cs k rfl h
theorem wX8_build {l : Launch} {G : GT} {d : Nat} {Q : Po} {pc : Nat} {lv : Lv} {st : List Value} {σ : Mm} (cs : List (Nat × List Nat)) (k : Nat) (h : vc l G d mX8_build TX8_build Q cs k (drp TX8_build pc) lv st σ) (hpc : hdp (drp TX8_build pc) = pc := by rfl) : Wp l G d mX8_build pc lv st σ Q := wp_vc TX8_build_ok cs k hpc h
def TX8_reckonDeeds : List In := [(0, 3, zt_ic 1000), (3, 4, zt_aload 0), (4, 7, zt_getL 16 7), (7, 9, zt_ic 25), (9, 10, zt_iload 3), (10, 11, zt_iadd), (11, 12, zt_iald), (12, 13, zt_iadd), (13, 15, zt_istoreF 6), (15, 17, zt_iload 6), (17, 20, zt_if_gt 21), (20, 21, zt_vret), (21, 22, zt_aload 1), (22, 25, zt_getL 15 1), (25, 26, zt_iload 3), (26, 27, zt_aload 0), (27, 28, zt_aload 1), (28, 31, zt_getL 15 0), (31, 32, zt_iload 2), (32, 33, zt_iload 3), (33, 35, zt_iload 4), (35, 38, zt_callVF mX8_weigh 4 16), (38, 40, zt_ic 10), (40, 41, zt_imul), (41, 43, zt_iload 6), (43, 44, zt_idiv), (44, 45, zt_iastoreF), (45, 46, zt_aload 1), (46, 49, zt_getL 15 3), (49, 50, zt_ic 0), (50, 51, zt_aald), (51, 52, zt_iload 3), (52, 53, zt_aload 0), (53, 56, zt_getL 16 2), (56, 57, zt_iload 2), (57, 58, zt_iald), (58, 59, zt_iastoreF), (59, 60, zt_aload 1), (60, 63, zt_getI 15 6), (63, 66, zt_if_le 114), (66, 68, zt_iload 5), (68, 69, zt_ic 1), (69, 72, zt_icmp_ne 79), (72, 73, zt_aload 0), (73, 76, zt_getL 16 9), (76, 79, zt_goto 83), (79, 80, zt_aload 0), (80, 83, zt_getL 16 8), (83, 85, zt_astoreF 7), (85, 86, zt_aload 1), (86, 89, zt_getL 15 4), (89, 90, zt_ic 0), (90, 91, zt_aald), (91, 92, zt_iload 3), (92, 93, zt_aload 0), (93, 94, zt_iload 2), (94, 97, zt_callVF mX8_renewalAt 1 16), (97, 99, zt_aload 7), (99, 100, zt_aload 1), (100, 103, zt_getI 15 6), (103, 104, zt_ic 2), (104, 107, zt_min), (107, 108, zt_ic 1), (108, 109, zt_isub), (109, 110, zt_aald), (110, 111, zt_iload 3), (111, 112, zt_iald), (112, 113, zt_iadd), (113, 114, zt_iastoreF), (114, 115, zt_ic 1), (115, 117, zt_istoreF 7), (117, 119, zt_iload 7), (119, 120, zt_aload 0), (120, 123, zt_getL 16 6), (123, 125, zt_ic 10), (125, 126, zt_iald), (126, 129, zt_icmp_gt 212), (129, 130, zt_iload 2), (130, 132, zt_iload 7), (132, 133, zt_iadd), (133, 134, zt_aload 0), (134, 137, zt_getL 16 6), (137, 138, zt_ic 1), (138, 139, zt_iald), (139, 142, zt_icmp_ge 212), (142, 143, zt_aload 1), (143, 146, zt_getL 15 3), (146, 148, zt_iload 7), (148, 149, zt_aald), (149, 150, zt_iload 3), (150, 151, zt_aload 0), (151, 152, zt_aload 1), (152, 155, zt_getL 15 3), (155, 157, zt_iload 7), (157, 158, zt_ic 1), (158, 159, zt_isub), (159, 160, zt_aald), (160, 161, zt_iload 2), (161, 162, zt_iload 3), (162, 164, zt_iload 4), (164, 167, zt_callVF mX8_weigh 4 16), (167, 169, zt_ic 10), (169, 170, zt_imul), (170, 172, zt_iload 6), (172, 173, zt_idiv), (173, 174, zt_iastoreF), (174, 175, zt_aload 1), (175, 178, zt_getL 15 4), (178, 180, zt_iload 7), (180, 181, zt_aald), (181, 182, zt_iload 3), (182, 183, zt_aload 0), (183, 184, zt_aload 1), (184, 187, zt_getL 15 4), (187, 189, zt_iload 7), (189, 190, zt_ic 1), (190, 191, zt_isub), (191, 192, zt_aald), (192, 193, zt_iload 2), (193, 194, zt_iload 3), (194, 196, zt_iload 4), (196, 199, zt_callVF mX8_weigh 4 16), (199, 201, zt_ic 10), (201, 202, zt_imul), (202, 204, zt_iload 6), (204, 205, zt_idiv), (205, 206, zt_iastoreF), (206, 209, zt_iincF 7 1), (209, 212, zt_goto 117), (212, 213, zt_vret)]
theorem TX8_reckonDeeds_ok : ∀ i ∈ TX8_reckonDeeds, Ent mX8_reckonDeeds i := by
  refine List.forall_mem_cons.mpr ⟨ze_sipush (n := 1000) (by decide +kernel) (by decide), ?_⟩
  refine List.forall_mem_cons.mpr ⟨ze_aload_n (k := 0) (by decide +kernel) rfl, ?_⟩
  refine List.forall_mem_cons.mpr ⟨ze_getL (by decide +kernel) fl_X8_36 rfl (by decide), ?_⟩
  refine List.forall_mem_cons.mpr ⟨ze_bipush (n := 25) (by decide +kernel) (by decide), ?_⟩
  refine List.forall_mem_cons.mpr ⟨ze_iload_n (k := 3) (by decide +kernel) rfl, ?_⟩
  refine List.forall_mem_cons.mpr ⟨ze_iadd (by decide +kernel), ?_⟩
  refine List.forall_mem_cons.mpr ⟨ze_iald (by decide +kernel), ?_⟩
  refine List.forall_mem_cons.mpr ⟨ze_iadd (by decide +kernel), ?_⟩
  refine List.forall_mem_cons.mpr ⟨ze_istoreF (by decide +kernel) (by decide), ?_⟩
  refine List.forall_mem_cons.mpr ⟨ze_iload (by decide +kernel), ?_⟩
  refine List.forall_mem_cons.mpr ⟨ze_if_gt (off := 4) (by decide +kernel) (by decide), ?_⟩
  refine List.forall_mem_cons.mpr ⟨ze_vret (by decide +kernel) rfl, ?_⟩
  refine List.forall_mem_cons.mpr ⟨ze_aload_n (k := 1) (by decide +kernel) rfl, ?_⟩
  refine List.forall_mem_cons.mpr ⟨ze_getL (by decide +kernel) fl_X8_91 rfl (by decide), ?_⟩
  refine List.forall_mem_cons.mpr ⟨ze_iload_n (k := 3) (by decide +kernel) rfl, ?_⟩
  refine List.forall_mem_cons.mpr ⟨ze_aload_n (k := 0) (by decide +kernel) rfl, ?_⟩
  refine List.forall_mem_cons.mpr ⟨ze_aload_n (k := 1) (by decide +kernel) rfl, ?_⟩
  refine List.forall_mem_cons.mpr ⟨ze_getL (by decide +kernel) fl_X8_125 rfl (by decide), ?_⟩
  refine List.forall_mem_cons.mpr ⟨ze_iload_n (k := 2) (by decide +kernel) rfl, ?_⟩
  refine List.forall_mem_cons.mpr ⟨ze_iload_n (k := 3) (by decide +kernel) rfl, ?_⟩
  refine List.forall_mem_cons.mpr ⟨ze_iload (by decide +kernel), ?_⟩
  refine List.forall_mem_cons.mpr ⟨ze_callVF (idx := 158) (by decide +kernel) ml_X8_158 mv_X8_weigh rfl, ?_⟩
  refine List.forall_mem_cons.mpr ⟨ze_bipush (n := 10) (by decide +kernel) (by decide), ?_⟩
  refine List.forall_mem_cons.mpr ⟨ze_imul (by decide +kernel), ?_⟩
  refine List.forall_mem_cons.mpr ⟨ze_iload (by decide +kernel), ?_⟩
  refine List.forall_mem_cons.mpr ⟨ze_idiv (by decide +kernel), ?_⟩
  refine List.forall_mem_cons.mpr ⟨ze_iastoreF (by decide +kernel), ?_⟩
  refine List.forall_mem_cons.mpr ⟨ze_aload_n (k := 1) (by decide +kernel) rfl, ?_⟩
  refine List.forall_mem_cons.mpr ⟨ze_getL (by decide +kernel) fl_X8_94 rfl (by decide), ?_⟩
  refine List.forall_mem_cons.mpr ⟨ze_iconst (n := 0) (by decide +kernel) (by decide), ?_⟩
  refine List.forall_mem_cons.mpr ⟨ze_aald (by decide +kernel), ?_⟩
  refine List.forall_mem_cons.mpr ⟨ze_iload_n (k := 3) (by decide +kernel) rfl, ?_⟩
  refine List.forall_mem_cons.mpr ⟨ze_aload_n (k := 0) (by decide +kernel) rfl, ?_⟩
  refine List.forall_mem_cons.mpr ⟨ze_getL (by decide +kernel) fl_X8_18 rfl (by decide), ?_⟩
  refine List.forall_mem_cons.mpr ⟨ze_iload_n (k := 2) (by decide +kernel) rfl, ?_⟩
  refine List.forall_mem_cons.mpr ⟨ze_iald (by decide +kernel), ?_⟩
  refine List.forall_mem_cons.mpr ⟨ze_iastoreF (by decide +kernel), ?_⟩
  refine List.forall_mem_cons.mpr ⟨ze_aload_n (k := 1) (by decide +kernel) rfl, ?_⟩
  refine List.forall_mem_cons.mpr ⟨ze_getI (by decide +kernel) fl_X8_112 rfl, ?_⟩
  refine List.forall_mem_cons.mpr ⟨ze_if_le (off := 51) (by decide +kernel) (by decide), ?_⟩
  refine List.forall_mem_cons.mpr ⟨ze_iload (by decide +kernel), ?_⟩
  refine List.forall_mem_cons.mpr ⟨ze_iconst (n := 1) (by decide +kernel) (by decide), ?_⟩
  refine List.forall_mem_cons.mpr ⟨ze_icmp_ne (off := 10) (by decide +kernel) (by decide), ?_⟩
  refine List.forall_mem_cons.mpr ⟨ze_aload_n (k := 0) (by decide +kernel) rfl, ?_⟩
  refine List.forall_mem_cons.mpr ⟨ze_getL (by decide +kernel) fl_X8_44 rfl (by decide), ?_⟩
  refine List.forall_mem_cons.mpr ⟨ze_goto (off := 7) (by decide +kernel) (by decide), ?_⟩
  refine List.forall_mem_cons.mpr ⟨ze_aload_n (k := 0) (by decide +kernel) rfl, ?_⟩
  refine List.forall_mem_cons.mpr ⟨ze_getL (by decide +kernel) fl_X8_41 rfl (by decide), ?_⟩
  refine List.forall_mem_cons.mpr ⟨ze_astoreF (by decide +kernel) (by decide), ?_⟩
  refine List.forall_mem_cons.mpr ⟨ze_aload_n (k := 1) (by decide +kernel) rfl, ?_⟩
  refine List.forall_mem_cons.mpr ⟨ze_getL (by decide +kernel) fl_X8_97 rfl (by decide), ?_⟩
  refine List.forall_mem_cons.mpr ⟨ze_iconst (n := 0) (by decide +kernel) (by decide), ?_⟩
  refine List.forall_mem_cons.mpr ⟨ze_aald (by decide +kernel), ?_⟩
  refine List.forall_mem_cons.mpr ⟨ze_iload_n (k := 3) (by decide +kernel) rfl, ?_⟩
  refine List.forall_mem_cons.mpr ⟨ze_aload_n (k := 0) (by decide +kernel) rfl, ?_⟩
  refine List.forall_mem_cons.mpr ⟨ze_iload_n (k := 2) (by decide +kernel) rfl, ?_⟩
  refine List.forall_mem_cons.mpr ⟨ze_callVF (idx := 162) (by decide +kernel) ml_X8_162 mv_X8_renewalAt rfl, ?_⟩
  refine List.forall_mem_cons.mpr ⟨ze_aload (by decide +kernel), ?_⟩
  refine List.forall_mem_cons.mpr ⟨ze_aload_n (k := 1) (by decide +kernel) rfl, ?_⟩
  refine List.forall_mem_cons.mpr ⟨ze_getI (by decide +kernel) fl_X8_112 rfl, ?_⟩
  refine List.forall_mem_cons.mpr ⟨ze_iconst (n := 2) (by decide +kernel) (by decide), ?_⟩
  refine List.forall_mem_cons.mpr ⟨ze_min (idx := 53) (by decide +kernel) ml_X8_53 jmn.1 jmn.2.1 jmn.2.2, ?_⟩
  refine List.forall_mem_cons.mpr ⟨ze_iconst (n := 1) (by decide +kernel) (by decide), ?_⟩
  refine List.forall_mem_cons.mpr ⟨ze_isub (by decide +kernel), ?_⟩
  refine List.forall_mem_cons.mpr ⟨ze_aald (by decide +kernel), ?_⟩
  refine List.forall_mem_cons.mpr ⟨ze_iload_n (k := 3) (by decide +kernel) rfl, ?_⟩
  refine List.forall_mem_cons.mpr ⟨ze_iald (by decide +kernel), ?_⟩
  refine List.forall_mem_cons.mpr ⟨ze_iadd (by decide +kernel), ?_⟩
  refine List.forall_mem_cons.mpr ⟨ze_iastoreF (by decide +kernel), ?_⟩
  refine List.forall_mem_cons.mpr ⟨ze_iconst (n := 1) (by decide +kernel) (by decide), ?_⟩
  refine List.forall_mem_cons.mpr ⟨ze_istoreF (by decide +kernel) (by decide), ?_⟩
  refine List.forall_mem_cons.mpr ⟨ze_iload (by decide +kernel), ?_⟩
  refine List.forall_mem_cons.mpr ⟨ze_aload_n (k := 0) (by decide +kernel) rfl, ?_⟩
  refine List.forall_mem_cons.mpr ⟨ze_getL (by decide +kernel) fl_X8_50 rfl (by decide), ?_⟩
  refine List.forall_mem_cons.mpr ⟨ze_bipush (n := 10) (by decide +kernel) (by decide), ?_⟩
  refine List.forall_mem_cons.mpr ⟨ze_iald (by decide +kernel), ?_⟩
  refine List.forall_mem_cons.mpr ⟨ze_icmp_gt (off := 86) (by decide +kernel) (by decide), ?_⟩
  refine List.forall_mem_cons.mpr ⟨ze_iload_n (k := 2) (by decide +kernel) rfl, ?_⟩
  refine List.forall_mem_cons.mpr ⟨ze_iload (by decide +kernel), ?_⟩
  refine List.forall_mem_cons.mpr ⟨ze_iadd (by decide +kernel), ?_⟩
  refine List.forall_mem_cons.mpr ⟨ze_aload_n (k := 0) (by decide +kernel) rfl, ?_⟩
  refine List.forall_mem_cons.mpr ⟨ze_getL (by decide +kernel) fl_X8_50 rfl (by decide), ?_⟩
  refine List.forall_mem_cons.mpr ⟨ze_iconst (n := 1) (by decide +kernel) (by decide), ?_⟩
  refine List.forall_mem_cons.mpr ⟨ze_iald (by decide +kernel), ?_⟩
  refine List.forall_mem_cons.mpr ⟨ze_icmp_ge (off := 73) (by decide +kernel) (by decide), ?_⟩
  refine List.forall_mem_cons.mpr ⟨ze_aload_n (k := 1) (by decide +kernel) rfl, ?_⟩
  refine List.forall_mem_cons.mpr ⟨ze_getL (by decide +kernel) fl_X8_94 rfl (by decide), ?_⟩
  refine List.forall_mem_cons.mpr ⟨ze_iload (by decide +kernel), ?_⟩
  refine List.forall_mem_cons.mpr ⟨ze_aald (by decide +kernel), ?_⟩
  refine List.forall_mem_cons.mpr ⟨ze_iload_n (k := 3) (by decide +kernel) rfl, ?_⟩
  refine List.forall_mem_cons.mpr ⟨ze_aload_n (k := 0) (by decide +kernel) rfl, ?_⟩
  refine List.forall_mem_cons.mpr ⟨ze_aload_n (k := 1) (by decide +kernel) rfl, ?_⟩
  refine List.forall_mem_cons.mpr ⟨ze_getL (by decide +kernel) fl_X8_94 rfl (by decide), ?_⟩
  refine List.forall_mem_cons.mpr ⟨ze_iload (by decide +kernel), ?_⟩
  refine List.forall_mem_cons.mpr ⟨ze_iconst (n := 1) (by decide +kernel) (by decide), ?_⟩
  refine List.forall_mem_cons.mpr ⟨ze_isub (by decide +kernel), ?_⟩
  refine List.forall_mem_cons.mpr ⟨ze_aald (by decide +kernel), ?_⟩
  refine List.forall_mem_cons.mpr ⟨ze_iload_n (k := 2) (by decide +kernel) rfl, ?_⟩
  refine List.forall_mem_cons.mpr ⟨ze_iload_n (k := 3) (by decide +kernel) rfl, ?_⟩
  refine List.forall_mem_cons.mpr ⟨ze_iload (by decide +kernel), ?_⟩
  refine List.forall_mem_cons.mpr ⟨ze_callVF (idx := 158) (by decide +kernel) ml_X8_158 mv_X8_weigh rfl, ?_⟩
  refine List.forall_mem_cons.mpr ⟨ze_bipush (n := 10) (by decide +kernel) (by decide), ?_⟩
  refine List.forall_mem_cons.mpr ⟨ze_imul (by decide +kernel), ?_⟩
  refine List.forall_mem_cons.mpr ⟨ze_iload (by decide +kernel), ?_⟩
  refine List.forall_mem_cons.mpr ⟨ze_idiv (by decide +kernel), ?_⟩
  refine List.forall_mem_cons.mpr ⟨ze_iastoreF (by decide +kernel), ?_⟩
  refine List.forall_mem_cons.mpr ⟨ze_aload_n (k := 1) (by decide +kernel) rfl, ?_⟩
  refine List.forall_mem_cons.mpr ⟨ze_getL (by decide +kernel) fl_X8_97 rfl (by decide), ?_⟩
  refine List.forall_mem_cons.mpr ⟨ze_iload (by decide +kernel), ?_⟩
  refine List.forall_mem_cons.mpr ⟨ze_aald (by decide +kernel), ?_⟩
  refine List.forall_mem_cons.mpr ⟨ze_iload_n (k := 3) (by decide +kernel) rfl, ?_⟩
  refine List.forall_mem_cons.mpr ⟨ze_aload_n (k := 0) (by decide +kernel) rfl, ?_⟩
  refine List.forall_mem_cons.mpr ⟨ze_aload_n (k := 1) (by decide +kernel) rfl, ?_⟩
  refine List.forall_mem_cons.mpr ⟨ze_getL (by decide +kernel) fl_X8_97 rfl (by decide), ?_⟩
  refine List.forall_mem_cons.mpr ⟨ze_iload (by decide +kernel), ?_⟩
  refine List.forall_mem_cons.mpr ⟨ze_iconst (n := 1) (by decide +kernel) (by decide), ?_⟩
  refine List.forall_mem_cons.mpr ⟨ze_isub (by decide +kernel), ?_⟩
  refine List.forall_mem_cons.mpr ⟨ze_aald (by decide +kernel), ?_⟩
  refine List.forall_mem_cons.mpr ⟨ze_iload_n (k := 2) (by decide +kernel) rfl, ?_⟩
  refine List.forall_mem_cons.mpr ⟨ze_iload_n (k := 3) (by decide +kernel) rfl, ?_⟩
  refine List.forall_mem_cons.mpr ⟨ze_iload (by decide +kernel), ?_⟩
  refine List.forall_mem_cons.mpr ⟨ze_callVF (idx := 158) (by decide +kernel) ml_X8_158 mv_X8_weigh rfl, ?_⟩
  refine List.forall_mem_cons.mpr ⟨ze_bipush (n := 10) (by decide +kernel) (by decide), ?_⟩
  refine List.forall_mem_cons.mpr ⟨ze_imul (by decide +kernel), ?_⟩
  refine List.forall_mem_cons.mpr ⟨ze_iload (by decide +kernel), ?_⟩
  refine List.forall_mem_cons.mpr ⟨ze_idiv (by decide +kernel), ?_⟩
  refine List.forall_mem_cons.mpr ⟨ze_iastoreF (by decide +kernel), ?_⟩
  refine List.forall_mem_cons.mpr ⟨ze_iincF (n := 1) (by decide +kernel) (by decide) (by decide), ?_⟩
  refine List.forall_mem_cons.mpr ⟨ze_goto (off := -92) (by decide +kernel) (by decide), ?_⟩
  refine List.forall_mem_cons.mpr ⟨ze_vret (by decide +kernel) rfl, ?_⟩
  exact fun _ h => absurd h List.not_mem_nil
theorem vX8_reckonDeeds {l : Launch} {G : GT} {d : Nat} {av : List Value} {Q : Po} {σ : Mm} (cs : List (Nat × List Nat)) (k : Nat) (h : vc l G d mX8_reckonDeeds TX8_reckonDeeds Q cs k TX8_reckonDeeds (lv_args 0 av) [] σ) (hlen : (lg_sl av).length ≤ mX8_reckonDeeds.2.2.1 := by exact Nat.le_of_ble_eq_true rfl) : MW l G d mX8_reckonDeeds av σ Q := mw_vc TX8_reckonDeeds_ok mc_X8_reckonDeeds rfl hlen cs k rfl h
theorem wX8_reckonDeeds {l : Launch} {G : GT} {d : Nat} {Q : Po} {pc : Nat} {lv : Lv} {st : List Value} {σ : Mm} (cs : List (Nat × List Nat)) (k : Nat) (h : vc l G d mX8_reckonDeeds TX8_reckonDeeds Q cs k (drp TX8_reckonDeeds pc) lv st σ) (hpc : hdp (drp TX8_reckonDeeds pc) = pc := by rfl) : Wp l G d mX8_reckonDeeds pc lv st σ Q := wp_vc TX8_reckonDeeds_ok cs k hpc h
def TX8_weigh : List In := [(0, 1, zt_aload 0), (1, 4, zt_getL 16 6), (4, 6, zt_ic 6), (6, 7, zt_iald), (7, 9, zt_istoreF 5), (9, 11, zt_ic 100), (11, 13, zt_iload 4), (13, 14, zt_imul), (14, 16, zt_iload 5), (16, 17, zt_aload 1), (17, 18, zt_iload 3), (18, 19, zt_iload 2), (19, 20, zt_iadd), (20, 21, zt_ic 2), (21, 22, zt_iadd), (22, 23, zt_iald), (23, 24, zt_imul), (24, 25, zt_iadd), (25, 27, zt_ic 100), (27, 29, zt_iload 5), (29, 30, zt_isub), (30, 31, zt_aload 1), (31, 32, zt_iload 3), (32, 33, zt_iload 2), (33, 34, zt_iadd), (34, 35, zt_ic 1), (35, 36, zt_iadd), (36, 37, zt_iald), (37, 38, zt_imul), (38, 39, zt_iadd), (39, 40, zt_iret)]
theorem TX8_weigh_ok : ∀ i ∈ TX8_weigh, Ent mX8_weigh i := by
  refine List.forall_mem_cons.mpr ⟨ze_aload_n (k := 0) (by decide +kernel) rfl, ?_⟩
  refine List.forall_mem_cons.mpr ⟨ze_getL (by decide +kernel) fl_X8_50 rfl (by decide), ?_⟩
  refine List.forall_mem_cons.mpr ⟨ze_bipush (n := 6) (by decide +kernel) (by decide), ?_⟩
  refine List.forall_mem_cons.mpr ⟨ze_iald (by decide +kernel), ?_⟩
  refine List.forall_mem_cons.mpr ⟨ze_istoreF (by decide +kernel) (by decide), ?_⟩
  refine List.forall_mem_cons.mpr ⟨ze_bipush (n := 100) (by decide +kernel) (by decide), ?_⟩
  refine List.forall_mem_cons.mpr ⟨ze_iload (by decide +kernel), ?_⟩
  refine List.forall_mem_cons.mpr ⟨ze_imul (by decide +kernel), ?_⟩
  refine List.forall_mem_cons.mpr ⟨ze_iload (by decide +kernel), ?_⟩
  refine List.forall_mem_cons.mpr ⟨ze_aload_n (k := 1) (by decide +kernel) rfl, ?_⟩
  refine List.forall_mem_cons.mpr ⟨ze_iload_n (k := 3) (by decide +kernel) rfl, ?_⟩
  refine List.forall_mem_cons.mpr ⟨ze_iload_n (k := 2) (by decide +kernel) rfl, ?_⟩
  refine List.forall_mem_cons.mpr ⟨ze_iadd (by decide +kernel), ?_⟩
  refine List.forall_mem_cons.mpr ⟨ze_iconst (n := 2) (by decide +kernel) (by decide), ?_⟩
  refine List.forall_mem_cons.mpr ⟨ze_iadd (by decide +kernel), ?_⟩
  refine List.forall_mem_cons.mpr ⟨ze_iald (by decide +kernel), ?_⟩
  refine List.forall_mem_cons.mpr ⟨ze_imul (by decide +kernel), ?_⟩
  refine List.forall_mem_cons.mpr ⟨ze_iadd (by decide +kernel), ?_⟩
  refine List.forall_mem_cons.mpr ⟨ze_bipush (n := 100) (by decide +kernel) (by decide), ?_⟩
  refine List.forall_mem_cons.mpr ⟨ze_iload (by decide +kernel), ?_⟩
  refine List.forall_mem_cons.mpr ⟨ze_isub (by decide +kernel), ?_⟩
  refine List.forall_mem_cons.mpr ⟨ze_aload_n (k := 1) (by decide +kernel) rfl, ?_⟩
  refine List.forall_mem_cons.mpr ⟨ze_iload_n (k := 3) (by decide +kernel) rfl, ?_⟩
  refine List.forall_mem_cons.mpr ⟨ze_iload_n (k := 2) (by decide +kernel) rfl, ?_⟩
  refine List.forall_mem_cons.mpr ⟨ze_iadd (by decide +kernel), ?_⟩
  refine List.forall_mem_cons.mpr ⟨ze_iconst (n := 1) (by decide +kernel) (by decide), ?_⟩
  refine List.forall_mem_cons.mpr ⟨ze_iadd (by decide +kernel), ?_⟩
  refine List.forall_mem_cons.mpr ⟨ze_iald (by decide +kernel), ?_⟩
  refine List.forall_mem_cons.mpr ⟨ze_imul (by decide +kernel), ?_⟩
  refine List.forall_mem_cons.mpr ⟨ze_iadd (by decide +kernel), ?_⟩
  refine List.forall_mem_cons.mpr ⟨ze_iret (by decide +kernel) rfl, ?_⟩
  exact fun _ h => absurd h List.not_mem_nil
theorem vX8_weigh {l : Launch} {G : GT} {d : Nat} {av : List Value} {Q : Po} {σ : Mm} (cs : List (Nat × List Nat)) (k : Nat) (h : vc l G d mX8_weigh TX8_weigh Q cs k TX8_weigh (lv_args 0 av) [] σ) (hlen : (lg_sl av).length ≤ mX8_weigh.2.2.1 := by exact Nat.le_of_ble_eq_true rfl) : MW l G d mX8_weigh av σ Q := mw_vc TX8_weigh_ok mc_X8_weigh rfl hlen cs k rfl h
theorem wX8_weigh {l : Launch} {G : GT} {d : Nat} {Q : Po} {pc : Nat} {lv : Lv} {st : List Value} {σ : Mm} (cs : List (Nat × List Nat)) (k : Nat) (h : vc l G d mX8_weigh TX8_weigh Q cs k (drp TX8_weigh pc) lv st σ) (hpc : hdp (drp TX8_weigh pc) = pc := by rfl) : Wp l G d mX8_weigh pc lv st σ Q := wp_vc TX8_weigh_ok cs k hpc h
def TX9_countBytes : List In := [(0, 1, zt_ic 0), (1, 2, zt_istoreF 2), (2, 4, zt_ic 24), (4, 5, zt_istoreF 3), (5, 6, zt_iload 3), (6, 9, zt_if_lt 33), (9, 10, zt_iload 2), (10, 11, zt_iload 1), (11, 12, zt_iload 3), (12, 13, zt_iushr), (13, 16, zt_ic 255), (16, 17, zt_iand), (17, 20, zt_if_eq 24), (20, 21, zt_ic 1), (21, 24, zt_goto 25), (24, 25, zt_ic 0), (25, 26, zt_iadd), (26, 27, zt_istoreF 2), (27, 30, zt_iincF 3 (-8)), (30, 33, zt_goto 5), (33, 34, zt_iload 2), (34, 35, zt_iret)]
theorem TX9_countBytes_ok : ∀ i ∈ TX9_countBytes, Ent mX9_countBytes i := by
  refine List.forall_mem_cons.mpr ⟨ze_iconst (n := 0) (by decide +kernel) (by decide), ?_⟩
  refine List.forall_mem_cons.mpr ⟨ze_istoreF_n (k := 2) (by decide +kernel) rfl (by decide), ?_⟩
  refine List.forall_mem_cons.mpr ⟨ze_bipush (n := 24) (by decide +kernel) (by decide), ?_⟩
  refine List.forall_mem_cons.mpr ⟨ze_istoreF_n (k := 3) (by decide +kernel) rfl (by decide), ?_⟩
  refine List.forall_mem_cons.mpr ⟨ze_iload_n (k := 3) (by decide +kernel) rfl, ?_⟩
  refine List.forall_mem_cons.mpr ⟨ze_if_lt (off := 27) (by decide +kernel) (by decide), ?_⟩
  refine List.forall_mem_cons.mpr ⟨ze_iload_n (k := 2) (by decide +kernel) rfl, ?_⟩
  refine List.forall_mem_cons.mpr ⟨ze_iload_n (k := 1) (by decide +kernel) rfl, ?_⟩
  refine List.forall_mem_cons.mpr ⟨ze_iload_n (k := 3) (by decide +kernel) rfl, ?_⟩
  refine List.forall_mem_cons.mpr ⟨ze_iushr (by decide +kernel), ?_⟩
  refine List.forall_mem_cons.mpr ⟨ze_sipush (n := 255) (by decide +kernel) (by decide), ?_⟩
  refine List.forall_mem_cons.mpr ⟨ze_iand (by decide +kernel), ?_⟩
  refine List.forall_mem_cons.mpr ⟨ze_if_eq (off := 7) (by decide +kernel) (by decide), ?_⟩
  refine List.forall_mem_cons.mpr ⟨ze_iconst (n := 1) (by decide +kernel) (by decide), ?_⟩
  refine List.forall_mem_cons.mpr ⟨ze_goto (off := 4) (by decide +kernel) (by decide), ?_⟩
  refine List.forall_mem_cons.mpr ⟨ze_iconst (n := 0) (by decide +kernel) (by decide), ?_⟩
  refine List.forall_mem_cons.mpr ⟨ze_iadd (by decide +kernel), ?_⟩
  refine List.forall_mem_cons.mpr ⟨ze_istoreF_n (k := 2) (by decide +kernel) rfl (by decide), ?_⟩
  refine List.forall_mem_cons.mpr ⟨ze_iincF (n := -8) (by decide +kernel) (by decide) (by decide), ?_⟩
  refine List.forall_mem_cons.mpr ⟨ze_goto (off := -25) (by decide +kernel) (by decide), ?_⟩
  refine List.forall_mem_cons.mpr ⟨ze_iload_n (k := 2) (by decide +kernel) rfl, ?_⟩
  refine List.forall_mem_cons.mpr ⟨ze_iret (by decide +kernel) rfl, ?_⟩
  exact fun _ h => absurd h List.not_mem_nil
theorem vX9_countBytes {l : Launch} {G : GT} {d : Nat} {av : List Value} {Q : Po} {σ : Mm} (cs : List (Nat × List Nat)) (k : Nat) (h : vc l G d mX9_countBytes TX9_countBytes Q cs k TX9_countBytes (lv_args 0 av) [] σ) (hlen : (lg_sl av).length ≤ mX9_countBytes.2.2.1 := by exact Nat.le_of_ble_eq_true rfl) : MW l G d mX9_countBytes av σ Q := mw_vc TX9_countBytes_ok mc_X9_countBytes rfl hlen cs k rfl h
theorem wX9_countBytes {l : Launch} {G : GT} {d : Nat} {Q : Po} {pc : Nat} {lv : Lv} {st : List Value} {σ : Mm} (cs : List (Nat × List Nat)) (k : Nat) (h : vc l G d mX9_countBytes TX9_countBytes Q cs k (drp TX9_countBytes pc) lv st σ) (hpc : hdp (drp TX9_countBytes pc) = pc := by rfl) : Wp l G d mX9_countBytes pc lv st σ Q := wp_vc TX9_countBytes_ok cs k hpc h
def TX9_addBytes : List In := [(0, 2, zt_ic 24), (2, 3, zt_istoreF 2), (3, 4, zt_iload 2), (4, 7, zt_if_lt 56), (7, 8, zt_iload 1), (8, 9, zt_iload 2), (9, 10, zt_iushr), (10, 13, zt_ic 255), (13, 14, zt_iand), (14, 15, zt_istoreF 3), (15, 16, zt_iload 3), (16, 19, zt_if_eq 50), (19, 20, zt_aload 0), (20, 23, zt_getI 17 1), (23, 26, zt_ic 320), (26, 29, zt_icmp_ge 50), (29, 30, zt_aload 0), (30, 33, zt_getL 17 0), (33, 34, zt_aload 0), (34, 37, zt_getI 17 1), (37, 38, zt_iload 3), (38, 39, zt_i2b), (39, 40, zt_bastoreF), (40, 41, zt_aload 0), (41, 42, zt_dup), (42, 45, zt_getI 17 1), (45, 46, zt_ic 1), (46, 47, zt_iadd), (47, 50, zt_putI 17 1), (50, 53, zt_iincF 2 (-8)), (53, 56, zt_goto 3), (56, 57, zt_vret)]
theorem TX9_addBytes_ok : ∀ i ∈ TX9_addBytes, Ent mX9_addBytes i := by
  refine List.forall_mem_cons.mpr ⟨ze_bipush (n := 24) (by decide +kernel) (by decide), ?_⟩
  refine List.forall_mem_cons.mpr ⟨ze_istoreF_n (k := 2) (by decide +kernel) rfl (by decide), ?_⟩
  refine List.forall_mem_cons.mpr ⟨ze_iload_n (k := 2) (by decide +kernel) rfl, ?_⟩
  refine List.forall_mem_cons.mpr ⟨ze_if_lt (off := 52) (by decide +kernel) (by decide), ?_⟩
  refine List.forall_mem_cons.mpr ⟨ze_iload_n (k := 1) (by decide +kernel) rfl, ?_⟩
  refine List.forall_mem_cons.mpr ⟨ze_iload_n (k := 2) (by decide +kernel) rfl, ?_⟩
  refine List.forall_mem_cons.mpr ⟨ze_iushr (by decide +kernel), ?_⟩
  refine List.forall_mem_cons.mpr ⟨ze_sipush (n := 255) (by decide +kernel) (by decide), ?_⟩
  refine List.forall_mem_cons.mpr ⟨ze_iand (by decide +kernel), ?_⟩
  refine List.forall_mem_cons.mpr ⟨ze_istoreF_n (k := 3) (by decide +kernel) rfl (by decide), ?_⟩
  refine List.forall_mem_cons.mpr ⟨ze_iload_n (k := 3) (by decide +kernel) rfl, ?_⟩
  refine List.forall_mem_cons.mpr ⟨ze_if_eq (off := 34) (by decide +kernel) (by decide), ?_⟩
  refine List.forall_mem_cons.mpr ⟨ze_aload_n (k := 0) (by decide +kernel) rfl, ?_⟩
  refine List.forall_mem_cons.mpr ⟨ze_getI (by decide +kernel) fl_X9_13 rfl, ?_⟩
  refine List.forall_mem_cons.mpr ⟨ze_sipush (n := 320) (by decide +kernel) (by decide), ?_⟩
  refine List.forall_mem_cons.mpr ⟨ze_icmp_ge (off := 24) (by decide +kernel) (by decide), ?_⟩
  refine List.forall_mem_cons.mpr ⟨ze_aload_n (k := 0) (by decide +kernel) rfl, ?_⟩
  refine List.forall_mem_cons.mpr ⟨ze_getL (by decide +kernel) fl_X9_9 rfl (by decide), ?_⟩
  refine List.forall_mem_cons.mpr ⟨ze_aload_n (k := 0) (by decide +kernel) rfl, ?_⟩
  refine List.forall_mem_cons.mpr ⟨ze_getI (by decide +kernel) fl_X9_13 rfl, ?_⟩
  refine List.forall_mem_cons.mpr ⟨ze_iload_n (k := 3) (by decide +kernel) rfl, ?_⟩
  refine List.forall_mem_cons.mpr ⟨ze_i2b (by decide +kernel), ?_⟩
  refine List.forall_mem_cons.mpr ⟨ze_bastoreF (by decide +kernel), ?_⟩
  refine List.forall_mem_cons.mpr ⟨ze_aload_n (k := 0) (by decide +kernel) rfl, ?_⟩
  refine List.forall_mem_cons.mpr ⟨ze_dup (by decide +kernel), ?_⟩
  refine List.forall_mem_cons.mpr ⟨ze_getI (by decide +kernel) fl_X9_13 rfl, ?_⟩
  refine List.forall_mem_cons.mpr ⟨ze_iconst (n := 1) (by decide +kernel) (by decide), ?_⟩
  refine List.forall_mem_cons.mpr ⟨ze_iadd (by decide +kernel), ?_⟩
  refine List.forall_mem_cons.mpr ⟨ze_putI (by decide +kernel) fl_X9_13 ⟨_, _, _, rfl, rfl, by decide +kernel⟩ rfl, ?_⟩
  refine List.forall_mem_cons.mpr ⟨ze_iincF (n := -8) (by decide +kernel) (by decide) (by decide), ?_⟩
  refine List.forall_mem_cons.mpr ⟨ze_goto (off := -50) (by decide +kernel) (by decide), ?_⟩
  refine List.forall_mem_cons.mpr ⟨ze_vret (by decide +kernel) rfl, ?_⟩
  exact fun _ h => absurd h List.not_mem_nil
theorem vX9_addBytes {l : Launch} {G : GT} {d : Nat} {av : List Value} {Q : Po} {σ : Mm} (cs : List (Nat × List Nat)) (k : Nat) (h : vc l G d mX9_addBytes TX9_addBytes Q cs k TX9_addBytes (lv_args 0 av) [] σ) (hlen : (lg_sl av).length ≤ mX9_addBytes.2.2.1 := by exact Nat.le_of_ble_eq_true rfl) : MW l G d mX9_addBytes av σ Q := mw_vc TX9_addBytes_ok mc_X9_addBytes rfl hlen cs k rfl h
theorem wX9_addBytes {l : Launch} {G : GT} {d : Nat} {Q : Po} {pc : Nat} {lv : Lv} {st : List Value} {σ : Mm} (cs : List (Nat × List Nat)) (k : Nat) (h : vc l G d mX9_addBytes TX9_addBytes Q cs k (drp TX9_addBytes pc) lv st σ) (hpc : hdp (drp TX9_addBytes pc) = pc := by rfl) : Wp l G d mX9_addBytes pc lv st σ Q := wp_vc TX9_addBytes_ok cs k hpc h
def TX9_at : List In := [(0, 1, zt_iload 1), (1, 4, zt_if_lt 25), (4, 5, zt_iload 1), (5, 6, zt_aload 0), (6, 9, zt_getI 17 1), (9, 12, zt_icmp_ge 25), (12, 13, zt_aload 0), (13, 16, zt_getL 17 0), (16, 17, zt_iload 1), (17, 18, zt_bald), (18, 21, zt_ic 255), (21, 22, zt_iand), (22, 25, zt_goto 26), (25, 26, zt_ic 0), (26, 27, zt_iret)]
theorem TX9_at_ok : ∀ i ∈ TX9_at, Ent mX9_at i := by
  refine List.forall_mem_cons.mpr ⟨ze_iload_n (k := 1) (by decide +kernel) rfl, ?_⟩
  refine List.forall_mem_cons.mpr ⟨ze_if_lt (off := 24) (by decide +kernel) (by decide), ?_⟩
  refine List.forall_mem_cons.mpr ⟨ze_iload_n (k := 1) (by decide +kernel) rfl, ?_⟩
  refine List.forall_mem_cons.mpr ⟨ze_aload_n (k := 0) (by decide +kernel) rfl, ?_⟩
  refine List.forall_mem_cons.mpr ⟨ze_getI (by decide +kernel) fl_X9_13 rfl, ?_⟩
  refine List.forall_mem_cons.mpr ⟨ze_icmp_ge (off := 16) (by decide +kernel) (by decide), ?_⟩
  refine List.forall_mem_cons.mpr ⟨ze_aload_n (k := 0) (by decide +kernel) rfl, ?_⟩
  refine List.forall_mem_cons.mpr ⟨ze_getL (by decide +kernel) fl_X9_9 rfl (by decide), ?_⟩
  refine List.forall_mem_cons.mpr ⟨ze_iload_n (k := 1) (by decide +kernel) rfl, ?_⟩
  refine List.forall_mem_cons.mpr ⟨ze_bald (by decide +kernel), ?_⟩
  refine List.forall_mem_cons.mpr ⟨ze_sipush (n := 255) (by decide +kernel) (by decide), ?_⟩
  refine List.forall_mem_cons.mpr ⟨ze_iand (by decide +kernel), ?_⟩
  refine List.forall_mem_cons.mpr ⟨ze_goto (off := 4) (by decide +kernel) (by decide), ?_⟩
  refine List.forall_mem_cons.mpr ⟨ze_iconst (n := 0) (by decide +kernel) (by decide), ?_⟩
  refine List.forall_mem_cons.mpr ⟨ze_iret (by decide +kernel) rfl, ?_⟩
  exact fun _ h => absurd h List.not_mem_nil
theorem vX9_at {l : Launch} {G : GT} {d : Nat} {av : List Value} {Q : Po} {σ : Mm} (cs : List (Nat × List Nat)) (k : Nat) (h : vc l G d mX9_at TX9_at Q cs k TX9_at (lv_args 0 av) [] σ) (hlen : (lg_sl av).length ≤ mX9_at.2.2.1 := by exact Nat.le_of_ble_eq_true rfl) : MW l G d mX9_at av σ Q := mw_vc TX9_at_ok mc_X9_at rfl hlen cs k rfl h
theorem wX9_at {l : Launch} {G : GT} {d : Nat} {Q : Po} {pc : Nat} {lv : Lv} {st : List Value} {σ : Mm} (cs : List (Nat × List Nat)) (k : Nat) (h : vc l G d mX9_at TX9_at Q cs k (drp TX9_at pc) lv st σ) (hpc : hdp (drp TX9_at pc) = pc := by rfl) : Wp l G d mX9_at pc lv st σ Q := wp_vc TX9_at_ok cs k hpc h
def TX10_go : List In := [(0, 1, zt_aload 0), (1, 2, zt_iload 3), (2, 5, zt_putZ 18 12), (5, 6, zt_aload 0), (6, 7, zt_iload 2), (7, 10, zt_putI 18 13), (10, 11, zt_aload 0), (11, 12, zt_aload 1), (12, 13, zt_ic 0), (13, 14, zt_iald), (14, 17, zt_putI 18 14), (17, 18, zt_aload 0), (18, 20, zt_ic (163840 : Int32)), (20, 23, zt_putI 18 3), (23, 24, zt_aload 0), (24, 25, zt_ic 0), (25, 28, zt_putI 18 4), (28, 29, zt_aload 0), (29, 30, zt_ic 0), (30, 33, zt_putI 18 5), (33, 34, zt_aload 0), (34, 35, zt_ic 0), (35, 38, zt_putI 18 6), (38, 39, zt_aload 0), (39, 40, zt_ic 0), (40, 43, zt_putI 18 7), (43, 44, zt_aload 0), (44, 47, zt_getL 18 11), (47, 48, zt_lc 0), (48, 51, zt_callSF mJ7_fill_d0a16 2), (51, 52, zt_aload 0), (52, 55, zt_getL 18 9), (55, 56, zt_aload 1), (56, 57, zt_ic 0), (57, 58, zt_ic 0), (58, 61, zt_callVF mX8_reckon 3 16), (61, 62, zt_pop), (62, 63, zt_aload 0), (63, 64, zt_ic 0), (64, 65, zt_aload 0), (65, 68, zt_getI 18 14), (68, 69, zt_aload 1), (69, 70, zt_ic 1), (70, 71, zt_iald), (71, 72, zt_ic 0), (72, 75, zt_callVF mX10_arrive 4 18), (75, 76, zt_vret)]
theorem TX10_go_ok : ∀ i ∈ TX10_go, Ent mX10_go i := by
  refine List.forall_mem_cons.mpr ⟨ze_aload_n (k := 0) (by decide +kernel) rfl, ?_⟩
  refine List.forall_mem_cons.mpr ⟨ze_iload_n (k := 3) (by decide +kernel) rfl, ?_⟩
  refine List.forall_mem_cons.mpr ⟨ze_putZ (by decide +kernel) fl_X10_34 ⟨_, _, _, rfl, rfl, by decide +kernel⟩ rfl, ?_⟩
  refine List.forall_mem_cons.mpr ⟨ze_aload_n (k := 0) (by decide +kernel) rfl, ?_⟩
  refine List.forall_mem_cons.mpr ⟨ze_iload_n (k := 2) (by decide +kernel) rfl, ?_⟩
  refine List.forall_mem_cons.mpr ⟨ze_putI (by decide +kernel) fl_X10_38 ⟨_, _, _, rfl, rfl, by decide +kernel⟩ rfl, ?_⟩
  refine List.forall_mem_cons.mpr ⟨ze_aload_n (k := 0) (by decide +kernel) rfl, ?_⟩
  refine List.forall_mem_cons.mpr ⟨ze_aload_n (k := 1) (by decide +kernel) rfl, ?_⟩
  refine List.forall_mem_cons.mpr ⟨ze_iconst (n := 0) (by decide +kernel) (by decide), ?_⟩
  refine List.forall_mem_cons.mpr ⟨ze_iald (by decide +kernel), ?_⟩
  refine List.forall_mem_cons.mpr ⟨ze_putI (by decide +kernel) fl_X10_44 ⟨_, _, _, rfl, rfl, by decide +kernel⟩ rfl, ?_⟩
  refine List.forall_mem_cons.mpr ⟨ze_aload_n (k := 0) (by decide +kernel) rfl, ?_⟩
  refine List.forall_mem_cons.mpr ⟨ze_ldc (i := 47) (by decide +kernel) kc_X10_47, ?_⟩
  refine List.forall_mem_cons.mpr ⟨ze_putI (by decide +kernel) fl_X10_48 ⟨_, _, _, rfl, rfl, by decide +kernel⟩ rfl, ?_⟩
  refine List.forall_mem_cons.mpr ⟨ze_aload_n (k := 0) (by decide +kernel) rfl, ?_⟩
  refine List.forall_mem_cons.mpr ⟨ze_iconst (n := 0) (by decide +kernel) (by decide), ?_⟩
  refine List.forall_mem_cons.mpr ⟨ze_putI (by decide +kernel) fl_X10_50 ⟨_, _, _, rfl, rfl, by decide +kernel⟩ rfl, ?_⟩
  refine List.forall_mem_cons.mpr ⟨ze_aload_n (k := 0) (by decide +kernel) rfl, ?_⟩
  refine List.forall_mem_cons.mpr ⟨ze_iconst (n := 0) (by decide +kernel) (by decide), ?_⟩
  refine List.forall_mem_cons.mpr ⟨ze_putI (by decide +kernel) fl_X10_53 ⟨_, _, _, rfl, rfl, by decide +kernel⟩ rfl, ?_⟩
  refine List.forall_mem_cons.mpr ⟨ze_aload_n (k := 0) (by decide +kernel) rfl, ?_⟩
  refine List.forall_mem_cons.mpr ⟨ze_iconst (n := 0) (by decide +kernel) (by decide), ?_⟩
  refine List.forall_mem_cons.mpr ⟨ze_putI (by decide +kernel) fl_X10_56 ⟨_, _, _, rfl, rfl, by decide +kernel⟩ rfl, ?_⟩
  refine List.forall_mem_cons.mpr ⟨ze_aload_n (k := 0) (by decide +kernel) rfl, ?_⟩
  refine List.forall_mem_cons.mpr ⟨ze_iconst (n := 0) (by decide +kernel) (by decide), ?_⟩
  refine List.forall_mem_cons.mpr ⟨ze_putI (by decide +kernel) fl_X10_59 ⟨_, _, _, rfl, rfl, by decide +kernel⟩ rfl, ?_⟩
  refine List.forall_mem_cons.mpr ⟨ze_aload_n (k := 0) (by decide +kernel) rfl, ?_⟩
  refine List.forall_mem_cons.mpr ⟨ze_getL (by decide +kernel) fl_X10_15 rfl (by decide), ?_⟩
  refine List.forall_mem_cons.mpr ⟨ze_lconst (n := 0) (by decide +kernel) (by decide), ?_⟩
  refine List.forall_mem_cons.mpr ⟨ze_callSF (idx := 62) (by decide +kernel) ml_X10_62 ms_J7_fill_d0a16, ?_⟩
  refine List.forall_mem_cons.mpr ⟨ze_aload_n (k := 0) (by decide +kernel) rfl, ?_⟩
  refine List.forall_mem_cons.mpr ⟨ze_getL (by decide +kernel) fl_X10_23 rfl (by decide), ?_⟩
  refine List.forall_mem_cons.mpr ⟨ze_aload_n (k := 1) (by decide +kernel) rfl, ?_⟩
  refine List.forall_mem_cons.mpr ⟨ze_iconst (n := 0) (by decide +kernel) (by decide), ?_⟩
  refine List.forall_mem_cons.mpr ⟨ze_iconst (n := 0) (by decide +kernel) (by decide), ?_⟩
  refine List.forall_mem_cons.mpr ⟨ze_callVF (idx := 68) (by decide +kernel) ml_X10_68 mv_X8_reckon rfl, ?_⟩
  refine List.forall_mem_cons.mpr ⟨ze_pop (by decide +kernel), ?_⟩
  refine List.forall_mem_cons.mpr ⟨ze_aload_n (k := 0) (by decide +kernel) rfl, ?_⟩
  refine List.forall_mem_cons.mpr ⟨ze_iconst (n := 0) (by decide +kernel) (by decide), ?_⟩
  refine List.forall_mem_cons.mpr ⟨ze_aload_n (k := 0) (by decide +kernel) rfl, ?_⟩
  refine List.forall_mem_cons.mpr ⟨ze_getI (by decide +kernel) fl_X10_44 rfl, ?_⟩
  refine List.forall_mem_cons.mpr ⟨ze_aload_n (k := 1) (by decide +kernel) rfl, ?_⟩
  refine List.forall_mem_cons.mpr ⟨ze_iconst (n := 1) (by decide +kernel) (by decide), ?_⟩
  refine List.forall_mem_cons.mpr ⟨ze_iald (by decide +kernel), ?_⟩
  refine List.forall_mem_cons.mpr ⟨ze_iconst (n := 0) (by decide +kernel) (by decide), ?_⟩
  refine List.forall_mem_cons.mpr ⟨ze_callVF (idx := 72) (by decide +kernel) ml_X10_72 mv_X10_arrive rfl, ?_⟩
  refine List.forall_mem_cons.mpr ⟨ze_vret (by decide +kernel) rfl, ?_⟩
  exact fun _ h => absurd h List.not_mem_nil
theorem vX10_go {l : Launch} {G : GT} {d : Nat} {av : List Value} {Q : Po} {σ : Mm} (cs : List (Nat × List Nat)) (k : Nat) (h : vc l G d mX10_go TX10_go Q cs k TX10_go (lv_args 0 av) [] σ) (hlen : (lg_sl av).length ≤ mX10_go.2.2.1 := by exact Nat.le_of_ble_eq_true rfl) : MW l G d mX10_go av σ Q := mw_vc TX10_go_ok mc_X10_go rfl hlen cs k rfl h
theorem wX10_go {l : Launch} {G : GT} {d : Nat} {Q : Po} {pc : Nat} {lv : Lv} {st : List Value} {σ : Mm} (cs : List (Nat × List Nat)) (k : Nat) (h : vc l G d mX10_go TX10_go Q cs k (drp TX10_go pc) lv st σ) (hpc : hdp (drp TX10_go pc) = pc := by rfl) : Wp l G d mX10_go pc lv st σ Q := wp_vc TX10_go_ok cs k hpc h
def TX10_arrive : List In := [(0, 1, zt_iload 2), (1, 2, zt_aload 0), (2, 5, zt_getL 18 8), (5, 6, zt_ic 1), (6, 7, zt_iald), (7, 10, zt_icmp_lt 20), (10, 11, zt_aload 0), (11, 12, zt_iload 1), (12, 13, zt_iload 2), (13, 15, zt_iload 4), (15, 16, zt_ic 0), (16, 19, zt_callVF mX10_finish 4 18), (19, 20, zt_vret), (20, 21, zt_aload 0), (21, 24, zt_getL 18 10), (24, 25, zt_iload 1), (25, 26, zt_aald), (26, 29, zt_getL 15 2), (29, 30, zt_iload 2), (30, 31, zt_iload 3), (31, 34, zt_callSF mX8_nodeOf 2), (34, 35, zt_iald), (35, 37, zt_istoreF 5), (37, 39, zt_iload 5), (39, 42, zt_if_eq 52), (42, 43, zt_aload 0), (43, 46, zt_getL 18 8), (46, 48, zt_ic 10), (48, 49, zt_iald), (49, 52, zt_if_le 82), (52, 53, zt_aload 0), (53, 54, zt_iload 1), (54, 55, zt_iload 2), (55, 56, zt_iload 3), (56, 58, zt_iload 4), (58, 60, zt_iload 5), (60, 62, zt_iload 5), (62, 65, zt_if_ne 69), (65, 66, zt_ic 0), (66, 69, zt_goto 76), (69, 70, zt_aload 0), (70, 73, zt_getL 18 8), (73, 75, zt_ic 10), (75, 76, zt_iald), (76, 79, zt_callVF mX10_passYear 6 18), (79, 82, zt_goto 93), (82, 83, zt_aload 0), (83, 84, zt_iload 1), (84, 85, zt_iload 2), (85, 86, zt_iload 3), (86, 88, zt_iload 4), (88, 90, zt_iload 5), (90, 93, zt_callVF mX10_settleNotice 5 18), (93, 94, zt_vret)]
theorem TX10_arrive_ok : ∀ i ∈ TX10_arrive, Ent mX10_arrive i := by
  refine List.forall_mem_cons.mpr ⟨ze_iload_n (k := 2) (by decide +kernel) rfl, ?_⟩
  refine List.forall_mem_cons.mpr ⟨ze_aload_n (k := 0) (by decide +kernel) rfl, ?_⟩
  refine List.forall_mem_cons.mpr ⟨ze_getL (by decide +kernel) fl_X10_19 rfl (by decide), ?_⟩
  refine List.forall_mem_cons.mpr ⟨ze_iconst (n := 1) (by decide +kernel) (by decide), ?_⟩
  refine List.forall_mem_cons.mpr ⟨ze_iald (by decide +kernel), ?_⟩
  refine List.forall_mem_cons.mpr ⟨ze_icmp_lt (off := 13) (by decide +kernel) (by decide), ?_⟩
  refine List.forall_mem_cons.mpr ⟨ze_aload_n (k := 0) (by decide +kernel) rfl, ?_⟩
  refine List.forall_mem_cons.mpr ⟨ze_iload_n (k := 1) (by decide +kernel) rfl, ?_⟩
  refine List.forall_mem_cons.mpr ⟨ze_iload_n (k := 2) (by decide +kernel) rfl, ?_⟩
  refine List.forall_mem_cons.mpr ⟨ze_iload (by decide +kernel), ?_⟩
  refine List.forall_mem_cons.mpr ⟨ze_iconst (n := 0) (by decide +kernel) (by decide), ?_⟩
  refine List.forall_mem_cons.mpr ⟨ze_callVF (idx := 78) (by decide +kernel) ml_X10_78 mv_X10_finish rfl, ?_⟩
  refine List.forall_mem_cons.mpr ⟨ze_vret (by decide +kernel) rfl, ?_⟩
  refine List.forall_mem_cons.mpr ⟨ze_aload_n (k := 0) (by decide +kernel) rfl, ?_⟩
  refine List.forall_mem_cons.mpr ⟨ze_getL (by decide +kernel) fl_X10_11 rfl (by decide), ?_⟩
  refine List.forall_mem_cons.mpr ⟨ze_iload_n (k := 1) (by decide +kernel) rfl, ?_⟩
  refine List.forall_mem_cons.mpr ⟨ze_aald (by decide +kernel), ?_⟩
  refine List.forall_mem_cons.mpr ⟨ze_getL (by decide +kernel) fl_X10_82 rfl (by decide), ?_⟩
  refine List.forall_mem_cons.mpr ⟨ze_iload_n (k := 2) (by decide +kernel) rfl, ?_⟩
  refine List.forall_mem_cons.mpr ⟨ze_iload_n (k := 3) (by decide +kernel) rfl, ?_⟩
  refine List.forall_mem_cons.mpr ⟨ze_callSF (idx := 85) (by decide +kernel) ml_X10_85 ms_X8_nodeOf, ?_⟩
  refine List.forall_mem_cons.mpr ⟨ze_iald (by decide +kernel), ?_⟩
  refine List.forall_mem_cons.mpr ⟨ze_istoreF (by decide +kernel) (by decide), ?_⟩
  refine List.forall_mem_cons.mpr ⟨ze_iload (by decide +kernel), ?_⟩
  refine List.forall_mem_cons.mpr ⟨ze_if_eq (off := 13) (by decide +kernel) (by decide), ?_⟩
  refine List.forall_mem_cons.mpr ⟨ze_aload_n (k := 0) (by decide +kernel) rfl, ?_⟩
  refine List.forall_mem_cons.mpr ⟨ze_getL (by decide +kernel) fl_X10_19 rfl (by decide), ?_⟩
  refine List.forall_mem_cons.mpr ⟨ze_bipush (n := 10) (by decide +kernel) (by decide), ?_⟩
  refine List.forall_mem_cons.mpr ⟨ze_iald (by decide +kernel), ?_⟩
  refine List.forall_mem_cons.mpr ⟨ze_if_le (off := 33) (by decide +kernel) (by decide), ?_⟩
  refine List.forall_mem_cons.mpr ⟨ze_aload_n (k := 0) (by decide +kernel) rfl, ?_⟩
  refine List.forall_mem_cons.mpr ⟨ze_iload_n (k := 1) (by decide +kernel) rfl, ?_⟩
  refine List.forall_mem_cons.mpr ⟨ze_iload_n (k := 2) (by decide +kernel) rfl, ?_⟩
  refine List.forall_mem_cons.mpr ⟨ze_iload_n (k := 3) (by decide +kernel) rfl, ?_⟩
  refine List.forall_mem_cons.mpr ⟨ze_iload (by decide +kernel), ?_⟩
  refine List.forall_mem_cons.mpr ⟨ze_iload (by decide +kernel), ?_⟩
  refine List.forall_mem_cons.mpr ⟨ze_iload (by decide +kernel), ?_⟩
  refine List.forall_mem_cons.mpr ⟨ze_if_ne (off := 7) (by decide +kernel) (by decide), ?_⟩
  refine List.forall_mem_cons.mpr ⟨ze_iconst (n := 0) (by decide +kernel) (by decide), ?_⟩
  refine List.forall_mem_cons.mpr ⟨ze_goto (off := 10) (by decide +kernel) (by decide), ?_⟩
  refine List.forall_mem_cons.mpr ⟨ze_aload_n (k := 0) (by decide +kernel) rfl, ?_⟩
  refine List.forall_mem_cons.mpr ⟨ze_getL (by decide +kernel) fl_X10_19 rfl (by decide), ?_⟩
  refine List.forall_mem_cons.mpr ⟨ze_bipush (n := 10) (by decide +kernel) (by decide), ?_⟩
  refine List.forall_mem_cons.mpr ⟨ze_iald (by decide +kernel), ?_⟩
  refine List.forall_mem_cons.mpr ⟨ze_callVF (idx := 89) (by decide +kernel) ml_X10_89 mv_X10_passYear rfl, ?_⟩
  refine List.forall_mem_cons.mpr ⟨ze_goto (off := 14) (by decide +kernel) (by decide), ?_⟩
  refine List.forall_mem_cons.mpr ⟨ze_aload_n (k := 0) (by decide +kernel) rfl, ?_⟩
  refine List.forall_mem_cons.mpr ⟨ze_iload_n (k := 1) (by decide +kernel) rfl, ?_⟩
  refine List.forall_mem_cons.mpr ⟨ze_iload_n (k := 2) (by decide +kernel) rfl, ?_⟩
  refine List.forall_mem_cons.mpr ⟨ze_iload_n (k := 3) (by decide +kernel) rfl, ?_⟩
  refine List.forall_mem_cons.mpr ⟨ze_iload (by decide +kernel), ?_⟩
  refine List.forall_mem_cons.mpr ⟨ze_iload (by decide +kernel), ?_⟩
  refine List.forall_mem_cons.mpr ⟨ze_callVF (idx := 93) (by decide +kernel) ml_X10_93 mv_X10_settleNotice rfl, ?_⟩
  refine List.forall_mem_cons.mpr ⟨ze_vret (by decide +kernel) rfl, ?_⟩
  exact fun _ h => absurd h List.not_mem_nil
theorem vX10_arrive {l : Launch} {G : GT} {d : Nat} {av : List Value} {Q : Po} {σ : Mm} (cs : List (Nat × List Nat)) (k : Nat) (h : vc l G d mX10_arrive TX10_arrive Q cs k TX10_arrive (lv_args 0 av) [] σ) (hlen : (lg_sl av).length ≤ mX10_arrive.2.2.1 := by exact Nat.le_of_ble_eq_true rfl) : MW l G d mX10_arrive av σ Q := mw_vc TX10_arrive_ok mc_X10_arrive rfl hlen cs k rfl h
theorem wX10_arrive {l : Launch} {G : GT} {d : Nat} {Q : Po} {pc : Nat} {lv : Lv} {st : List Value} {σ : Mm} (cs : List (Nat × List Nat)) (k : Nat) (h : vc l G d mX10_arrive TX10_arrive Q cs k (drp TX10_arrive pc) lv st σ) (hpc : hdp (drp TX10_arrive pc) = pc := by rfl) : Wp l G d mX10_arrive pc lv st σ Q := wp_vc TX10_arrive_ok cs k hpc h
def TX10_passYear : List In := [(0, 1, zt_iload 2), (1, 2, zt_aload 0), (2, 5, zt_getL 18 8), (5, 6, zt_ic 1), (6, 7, zt_iald), (7, 10, zt_icmp_lt 11), (10, 11, zt_vret), (11, 13, zt_iload 4), (13, 14, zt_aload 0), (14, 17, zt_getL 18 9), (17, 18, zt_iload 2), (18, 19, zt_ic 1), (19, 20, zt_iadd), (20, 21, zt_aload 0), (21, 24, zt_getL 18 10), (24, 25, zt_iload 1), (25, 26, zt_aald), (26, 29, zt_getI 15 5), (29, 32, zt_callVF mX8_dueAt 2 16), (32, 33, zt_iadd), (33, 35, zt_istoreF 7), (35, 36, zt_aload 0), (36, 39, zt_getI 18 12), (39, 42, zt_if_eq 46), (42, 43, zt_ic 0), (43, 46, zt_goto 59), (46, 47, zt_aload 0), (47, 50, zt_getI 18 13), (50, 51, zt_iload 2), (51, 52, zt_aload 0), (52, 55, zt_getI 18 14), (55, 56, zt_isub), (56, 57, zt_iushr), (57, 58, zt_ic 1), (58, 59, zt_iand), (59, 61, zt_istoreF 8), (61, 62, zt_aload 0), (62, 65, zt_getI 18 12), (65, 68, zt_if_eq 72), (68, 69, zt_ic 1), (69, 72, zt_goto 74), (72, 74, zt_iload 8), (74, 76, zt_istoreF 9), (76, 78, zt_iload 8), (78, 80, zt_istoreF 10), (80, 82, zt_iload 10), (82, 84, zt_iload 9), (84, 87, zt_icmp_gt 160), (87, 89, zt_iload 6), (89, 92, zt_if_ne 109), (92, 93, zt_aload 0), (93, 94, zt_iload 1), (94, 95, zt_iload 2), (95, 96, zt_ic 1), (96, 97, zt_iadd), (97, 98, zt_iload 3), (98, 100, zt_iload 10), (100, 101, zt_iadd), (101, 103, zt_iload 7), (103, 106, zt_callVF mX10_arrive 4 18), (106, 109, zt_goto 154), (109, 111, zt_iload 6), (111, 112, zt_ic 1), (112, 115, zt_icmp_ne 134), (115, 116, zt_aload 0), (116, 117, zt_iload 1), (117, 118, zt_iload 2), (118, 119, zt_ic 1), (119, 120, zt_iadd), (120, 121, zt_iload 3), (121, 123, zt_iload 10), (123, 124, zt_iadd), (124, 126, zt_iload 7), (126, 128, zt_iload 5), (128, 131, zt_callVF mX10_settleNotice 5 18), (131, 134, zt_goto 154), (134, 135, zt_aload 0), (135, 136, zt_iload 1), (136, 137, zt_iload 2), (137, 138, zt_ic 1), (138, 139, zt_iadd), (139, 140, zt_iload 3), (140, 142, zt_iload 10), (142, 143, zt_iadd), (143, 145, zt_iload 7), (145, 147, zt_iload 5), (147, 149, zt_iload 6), (149, 150, zt_ic 1), (150, 151, zt_isub), (151, 154, zt_callVF mX10_passYear 6 18), (154, 157, zt_iincF 10 1), (157, 160, zt_goto 80), (160, 161, zt_vret)]
theorem TX10_passYear_ok : ∀ i ∈ TX10_passYear, Ent mX10_passYear i := by
  refine List.forall_mem_cons.mpr ⟨ze_iload_n (k := 2) (by decide +kernel) rfl, ?_⟩
  refine List.forall_mem_cons.mpr ⟨ze_aload_n (k := 0) (by decide +kernel) rfl, ?_⟩
  refine List.forall_mem_cons.mpr ⟨ze_getL (by decide +kernel) fl_X10_19 rfl (by decide), ?_⟩
  refine List.forall_mem_cons.mpr ⟨ze_iconst (n := 1) (by decide +kernel) (by decide), ?_⟩
  refine List.forall_mem_cons.mpr ⟨ze_iald (by decide +kernel), ?_⟩
  refine List.forall_mem_cons.mpr ⟨ze_icmp_lt (off := 4) (by decide +kernel) (by decide), ?_⟩
  refine List.forall_mem_cons.mpr ⟨ze_vret (by decide +kernel) rfl, ?_⟩
  refine List.forall_mem_cons.mpr ⟨ze_iload (by decide +kernel), ?_⟩
  refine List.forall_mem_cons.mpr ⟨ze_aload_n (k := 0) (by decide +kernel) rfl, ?_⟩
  refine List.forall_mem_cons.mpr ⟨ze_getL (by decide +kernel) fl_X10_23 rfl (by decide), ?_⟩
  refine List.forall_mem_cons.mpr ⟨ze_iload_n (k := 2) (by decide +kernel) rfl, ?_⟩
  refine List.forall_mem_cons.mpr ⟨ze_iconst (n := 1) (by decide +kernel) (by decide), ?_⟩
  refine List.forall_mem_cons.mpr ⟨ze_iadd (by decide +kernel), ?_⟩
  refine List.forall_mem_cons.mpr ⟨ze_aload_n (k := 0) (by decide +kernel) rfl, ?_⟩
  refine List.forall_mem_cons.mpr ⟨ze_getL (by decide +kernel) fl_X10_11 rfl (by decide), ?_⟩
  refine List.forall_mem_cons.mpr ⟨ze_iload_n (k := 1) (by decide +kernel) rfl, ?_⟩
  refine List.forall_mem_cons.mpr ⟨ze_aald (by decide +kernel), ?_⟩
  refine List.forall_mem_cons.mpr ⟨ze_getI (by decide +kernel) fl_X10_97 rfl, ?_⟩
  refine List.forall_mem_cons.mpr ⟨ze_callVF (idx := 100) (by decide +kernel) ml_X10_100 mv_X8_dueAt rfl, ?_⟩
  refine List.forall_mem_cons.mpr ⟨ze_iadd (by decide +kernel), ?_⟩
  refine List.forall_mem_cons.mpr ⟨ze_istoreF (by decide +kernel) (by decide), ?_⟩
  refine List.forall_mem_cons.mpr ⟨ze_aload_n (k := 0) (by decide +kernel) rfl, ?_⟩
  refine List.forall_mem_cons.mpr ⟨ze_getI (by decide +kernel) fl_X10_34 rfl, ?_⟩
  refine List.forall_mem_cons.mpr ⟨ze_if_eq (off := 7) (by decide +kernel) (by decide), ?_⟩
  refine List.forall_mem_cons.mpr ⟨ze_iconst (n := 0) (by decide +kernel) (by decide), ?_⟩
  refine List.forall_mem_cons.mpr ⟨ze_goto (off := 16) (by decide +kernel) (by decide), ?_⟩
  refine List.forall_mem_cons.mpr ⟨ze_aload_n (k := 0) (by decide +kernel) rfl, ?_⟩
  refine List.forall_mem_cons.mpr ⟨ze_getI (by decide +kernel) fl_X10_38 rfl, ?_⟩
  refine List.forall_mem_cons.mpr ⟨ze_iload_n (k := 2) (by decide +kernel) rfl, ?_⟩
  refine List.forall_mem_cons.mpr ⟨ze_aload_n (k := 0) (by decide +kernel) rfl, ?_⟩
  refine List.forall_mem_cons.mpr ⟨ze_getI (by decide +kernel) fl_X10_44 rfl, ?_⟩
  refine List.forall_mem_cons.mpr ⟨ze_isub (by decide +kernel), ?_⟩
  refine List.forall_mem_cons.mpr ⟨ze_iushr (by decide +kernel), ?_⟩
  refine List.forall_mem_cons.mpr ⟨ze_iconst (n := 1) (by decide +kernel) (by decide), ?_⟩
  refine List.forall_mem_cons.mpr ⟨ze_iand (by decide +kernel), ?_⟩
  refine List.forall_mem_cons.mpr ⟨ze_istoreF (by decide +kernel) (by decide), ?_⟩
  refine List.forall_mem_cons.mpr ⟨ze_aload_n (k := 0) (by decide +kernel) rfl, ?_⟩
  refine List.forall_mem_cons.mpr ⟨ze_getI (by decide +kernel) fl_X10_34 rfl, ?_⟩
  refine List.forall_mem_cons.mpr ⟨ze_if_eq (off := 7) (by decide +kernel) (by decide), ?_⟩
  refine List.forall_mem_cons.mpr ⟨ze_iconst (n := 1) (by decide +kernel) (by decide), ?_⟩
  refine List.forall_mem_cons.mpr ⟨ze_goto (off := 5) (by decide +kernel) (by decide), ?_⟩
  refine List.forall_mem_cons.mpr ⟨ze_iload (by decide +kernel), ?_⟩
  refine List.forall_mem_cons.mpr ⟨ze_istoreF (by decide +kernel) (by decide), ?_⟩
  refine List.forall_mem_cons.mpr ⟨ze_iload (by decide +kernel), ?_⟩
  refine List.forall_mem_cons.mpr ⟨ze_istoreF (by decide +kernel) (by decide), ?_⟩
  refine List.forall_mem_cons.mpr ⟨ze_iload (by decide +kernel), ?_⟩
  refine List.forall_mem_cons.mpr ⟨ze_iload (by decide +kernel), ?_⟩
  refine List.forall_mem_cons.mpr ⟨ze_icmp_gt (off := 76) (by decide +kernel) (by decide), ?_⟩
  refine List.forall_mem_cons.mpr ⟨ze_iload (by decide +kernel), ?_⟩
  refine List.forall_mem_cons.mpr ⟨ze_if_ne (off := 20) (by decide +kernel) (by decide), ?_⟩
  refine List.forall_mem_cons.mpr ⟨ze_aload_n (k := 0) (by decide +kernel) rfl, ?_⟩
  refine List.forall_mem_cons.mpr ⟨ze_iload_n (k := 1) (by decide +kernel) rfl, ?_⟩
  refine List.forall_mem_cons.mpr ⟨ze_iload_n (k := 2) (by decide +kernel) rfl, ?_⟩
  refine List.forall_mem_cons.mpr ⟨ze_iconst (n := 1) (by decide +kernel) (by decide), ?_⟩
  refine List.forall_mem_cons.mpr ⟨ze_iadd (by decide +kernel), ?_⟩
  refine List.forall_mem_cons.mpr ⟨ze_iload_n (k := 3) (by decide +kernel) rfl, ?_⟩
  refine List.forall_mem_cons.mpr ⟨ze_iload (by decide +kernel), ?_⟩
  refine List.forall_mem_cons.mpr ⟨ze_iadd (by decide +kernel), ?_⟩
  refine List.forall_mem_cons.mpr ⟨ze_iload (by decide +kernel), ?_⟩
  refine List.forall_mem_cons.mpr ⟨ze_callVF (idx := 72) (by decide +kernel) ml_X10_72 mv_X10_arrive rfl, ?_⟩
  refine List.forall_mem_cons.mpr ⟨ze_goto (off := 48) (by decide +kernel) (by decide), ?_⟩
  refine List.forall_mem_cons.mpr ⟨ze_iload (by decide +kernel), ?_⟩
  refine List.forall_mem_cons.mpr ⟨ze_iconst (n := 1) (by decide +kernel) (by decide), ?_⟩
  refine List.forall_mem_cons.mpr ⟨ze_icmp_ne (off := 22) (by decide +kernel) (by decide), ?_⟩
  refine List.forall_mem_cons.mpr ⟨ze_aload_n (k := 0) (by decide +kernel) rfl, ?_⟩
  refine List.forall_mem_cons.mpr ⟨ze_iload_n (k := 1) (by decide +kernel) rfl, ?_⟩
  refine List.forall_mem_cons.mpr ⟨ze_iload_n (k := 2) (by decide +kernel) rfl, ?_⟩
  refine List.forall_mem_cons.mpr ⟨ze_iconst (n := 1) (by decide +kernel) (by decide), ?_⟩
  refine List.forall_mem_cons.mpr ⟨ze_iadd (by decide +kernel), ?_⟩
  refine List.forall_mem_cons.mpr ⟨ze_iload_n (k := 3) (by decide +kernel) rfl, ?_⟩
  refine List.forall_mem_cons.mpr ⟨ze_iload (by decide +kernel), ?_⟩
  refine List.forall_mem_cons.mpr ⟨ze_iadd (by decide +kernel), ?_⟩
  refine List.forall_mem_cons.mpr ⟨ze_iload (by decide +kernel), ?_⟩
  refine List.forall_mem_cons.mpr ⟨ze_iload (by decide +kernel), ?_⟩
  refine List.forall_mem_cons.mpr ⟨ze_callVF (idx := 93) (by decide +kernel) ml_X10_93 mv_X10_settleNotice rfl, ?_⟩
  refine List.forall_mem_cons.mpr ⟨ze_goto (off := 23) (by decide +kernel) (by decide), ?_⟩
  refine List.forall_mem_cons.mpr ⟨ze_aload_n (k := 0) (by decide +kernel) rfl, ?_⟩
  refine List.forall_mem_cons.mpr ⟨ze_iload_n (k := 1) (by decide +kernel) rfl, ?_⟩
  refine List.forall_mem_cons.mpr ⟨ze_iload_n (k := 2) (by decide +kernel) rfl, ?_⟩
  refine List.forall_mem_cons.mpr ⟨ze_iconst (n := 1) (by decide +kernel) (by decide), ?_⟩
  refine List.forall_mem_cons.mpr ⟨ze_iadd (by decide +kernel), ?_⟩
  refine List.forall_mem_cons.mpr ⟨ze_iload_n (k := 3) (by decide +kernel) rfl, ?_⟩
  refine List.forall_mem_cons.mpr ⟨ze_iload (by decide +kernel), ?_⟩
  refine List.forall_mem_cons.mpr ⟨ze_iadd (by decide +kernel), ?_⟩
  refine List.forall_mem_cons.mpr ⟨ze_iload (by decide +kernel), ?_⟩
  refine List.forall_mem_cons.mpr ⟨ze_iload (by decide +kernel), ?_⟩
  refine List.forall_mem_cons.mpr ⟨ze_iload (by decide +kernel), ?_⟩
  refine List.forall_mem_cons.mpr ⟨ze_iconst (n := 1) (by decide +kernel) (by decide), ?_⟩
  refine List.forall_mem_cons.mpr ⟨ze_isub (by decide +kernel), ?_⟩
  refine List.forall_mem_cons.mpr ⟨ze_callVF (idx := 89) (by decide +kernel) ml_X10_89 mv_X10_passYear rfl, ?_⟩
  refine List.forall_mem_cons.mpr ⟨ze_iincF (n := 1) (by decide +kernel) (by decide) (by decide), ?_⟩
  refine List.forall_mem_cons.mpr ⟨ze_goto (off := -77) (by decide +kernel) (by decide), ?_⟩
  refine List.forall_mem_cons.mpr ⟨ze_vret (by decide +kernel) rfl, ?_⟩
  exact fun _ h => absurd h List.not_mem_nil
theorem vX10_passYear {l : Launch} {G : GT} {d : Nat} {av : List Value} {Q : Po} {σ : Mm} (cs : List (Nat × List Nat)) (k : Nat) (h : vc l G d mX10_passYear TX10_passYear Q cs k TX10_passYear (lv_args 0 av) [] σ) (hlen : (lg_sl av).length ≤ mX10_passYear.2.2.1 := by exact Nat.le_of_ble_eq_true rfl) : MW l G d mX10_passYear av σ Q := mw_vc TX10_passYear_ok mc_X10_passYear rfl hlen cs k rfl h
theorem wX10_passYear {l : Launch} {G : GT} {d : Nat} {Q : Po} {pc : Nat} {lv : Lv} {st : List Value} {σ : Mm} (cs : List (Nat × List Nat)) (k : Nat) (h : vc l G d mX10_passYear TX10_passYear Q cs k (drp TX10_passYear pc) lv st σ) (hpc : hdp (drp TX10_passYear pc) = pc := by rfl) : Wp l G d mX10_passYear pc lv st σ Q := wp_vc TX10_passYear_ok cs k hpc h
def TX10_settleNotice : List In := [(0, 2, zt_iload 5), (2, 3, zt_ic 1), (3, 6, zt_icmp_eq 17), (6, 7, zt_iload 1), (7, 8, zt_ic 1), (8, 9, zt_iadd), (9, 10, zt_aload 0), (10, 13, zt_getL 18 10), (13, 14, zt_alen), (14, 17, zt_icmp_lt 37), (17, 18, zt_aload 0), (18, 19, zt_iload 1), (19, 20, zt_iload 2), (20, 22, zt_iload 4), (22, 23, zt_aload 0), (23, 26, zt_getL 18 9), (26, 29, zt_getL 16 2), (29, 30, zt_iload 2), (30, 31, zt_iald), (31, 32, zt_iadd), (32, 33, zt_ic 1), (33, 36, zt_callVF mX10_finish 4 18), (36, 37, zt_vret), (37, 38, zt_aload 0), (38, 41, zt_getL 18 10), (41, 42, zt_iload 1), (42, 43, zt_ic 1), (43, 44, zt_iadd), (44, 45, zt_aald), (45, 47, zt_astoreF 6), (47, 49, zt_aload 6), (49, 50, zt_aload 0), (50, 53, zt_getL 18 9), (53, 54, zt_iload 2), (54, 55, zt_iload 3), (55, 58, zt_callSF mX8_nodeOf 2), (58, 61, zt_callVF mX8_couponOfNode 1 16), (61, 64, zt_putI 15 5), (64, 66, zt_aload 6), (66, 67, zt_aload 0), (67, 70, zt_getL 18 10), (70, 71, zt_iload 1), (71, 72, zt_aald), (72, 75, zt_getI 15 6), (75, 76, zt_ic 1), (76, 77, zt_isub), (77, 80, zt_putI 15 6), (80, 81, zt_aload 0), (81, 84, zt_getL 18 9), (84, 86, zt_aload 6), (86, 87, zt_iload 2), (87, 88, zt_iload 3), (88, 89, zt_ic 0), (89, 92, zt_callVF mX8_build 4 16), (92, 93, zt_aload 0), (93, 94, zt_iload 1), (94, 95, zt_ic 1), (95, 96, zt_iadd), (96, 97, zt_iload 2), (97, 98, zt_iload 3), (98, 100, zt_iload 4), (100, 101, zt_aload 0), (101, 104, zt_getL 18 9), (104, 105, zt_iload 2), (105, 108, zt_callVF mX8_renewalAt 1 16), (108, 109, zt_iadd), (109, 112, zt_callVF mX10_arrive 4 18), (112, 113, zt_vret)]
theorem TX10_settleNotice_ok : ∀ i ∈ TX10_settleNotice, Ent mX10_settleNotice i := by
  refine List.forall_mem_cons.mpr ⟨ze_iload (by decide +kernel), ?_⟩
  refine List.forall_mem_cons.mpr ⟨ze_iconst (n := 1) (by decide +kernel) (by decide), ?_⟩
  refine List.forall_mem_cons.mpr ⟨ze_icmp_eq (off := 14) (by decide +kernel) (by decide), ?_⟩
  refine List.forall_mem_cons.mpr ⟨ze_iload_n (k := 1) (by decide +kernel) rfl, ?_⟩
  refine List.forall_mem_cons.mpr ⟨ze_iconst (n := 1) (by decide +kernel) (by decide), ?_⟩
  refine List.forall_mem_cons.mpr ⟨ze_iadd (by decide +kernel), ?_⟩
  refine List.forall_mem_cons.mpr ⟨ze_aload_n (k := 0) (by decide +kernel) rfl, ?_⟩
  refine List.forall_mem_cons.mpr ⟨ze_getL (by decide +kernel) fl_X10_11 rfl (by decide), ?_⟩
  refine List.forall_mem_cons.mpr ⟨ze_alen (by decide +kernel), ?_⟩
  refine List.forall_mem_cons.mpr ⟨ze_icmp_lt (off := 23) (by decide +kernel) (by decide), ?_⟩
  refine List.forall_mem_cons.mpr ⟨ze_aload_n (k := 0) (by decide +kernel) rfl, ?_⟩
  refine List.forall_mem_cons.mpr ⟨ze_iload_n (k := 1) (by decide +kernel) rfl, ?_⟩
  refine List.forall_mem_cons.mpr ⟨ze_iload_n (k := 2) (by decide +kernel) rfl, ?_⟩
  refine List.forall_mem_cons.mpr ⟨ze_iload (by decide +kernel), ?_⟩
  refine List.forall_mem_cons.mpr ⟨ze_aload_n (k := 0) (by decide +kernel) rfl, ?_⟩
  refine List.forall_mem_cons.mpr ⟨ze_getL (by decide +kernel) fl_X10_23 rfl (by decide), ?_⟩
  refine List.forall_mem_cons.mpr ⟨ze_getL (by decide +kernel) fl_X10_103 rfl (by decide), ?_⟩
  refine List.forall_mem_cons.mpr ⟨ze_iload_n (k := 2) (by decide +kernel) rfl, ?_⟩
  refine List.forall_mem_cons.mpr ⟨ze_iald (by decide +kernel), ?_⟩
  refine List.forall_mem_cons.mpr ⟨ze_iadd (by decide +kernel), ?_⟩
  refine List.forall_mem_cons.mpr ⟨ze_iconst (n := 1) (by decide +kernel) (by decide), ?_⟩
  refine List.forall_mem_cons.mpr ⟨ze_callVF (idx := 78) (by decide +kernel) ml_X10_78 mv_X10_finish rfl, ?_⟩
  refine List.forall_mem_cons.mpr ⟨ze_vret (by decide +kernel) rfl, ?_⟩
  refine List.forall_mem_cons.mpr ⟨ze_aload_n (k := 0) (by decide +kernel) rfl, ?_⟩
  refine List.forall_mem_cons.mpr ⟨ze_getL (by decide +kernel) fl_X10_11 rfl (by decide), ?_⟩
  refine List.forall_mem_cons.mpr ⟨ze_iload_n (k := 1) (by decide +kernel) rfl, ?_⟩
  refine List.forall_mem_cons.mpr ⟨ze_iconst (n := 1) (by decide +kernel) (by decide), ?_⟩
  refine List.forall_mem_cons.mpr ⟨ze_iadd (by decide +kernel), ?_⟩
  refine List.forall_mem_cons.mpr ⟨ze_aald (by decide +kernel), ?_⟩
  refine List.forall_mem_cons.mpr ⟨ze_astoreF (by decide +kernel) (by decide), ?_⟩
  refine List.forall_mem_cons.mpr ⟨ze_aload (by decide +kernel), ?_⟩
  refine List.forall_mem_cons.mpr ⟨ze_aload_n (k := 0) (by decide +kernel) rfl, ?_⟩
  refine List.forall_mem_cons.mpr ⟨ze_getL (by decide +kernel) fl_X10_23 rfl (by decide), ?_⟩
  refine List.forall_mem_cons.mpr ⟨ze_iload_n (k := 2) (by decide +kernel) rfl, ?_⟩
  refine List.forall_mem_cons.mpr ⟨ze_iload_n (k := 3) (by decide +kernel) rfl, ?_⟩
  refine List.forall_mem_cons.mpr ⟨ze_callSF (idx := 85) (by decide +kernel) ml_X10_85 ms_X8_nodeOf, ?_⟩
  refine List.forall_mem_cons.mpr ⟨ze_callVF (idx := 106) (by decide +kernel) ml_X10_106 mv_X8_couponOfNode rfl, ?_⟩
  refine List.forall_mem_cons.mpr ⟨ze_putI (by decide +kernel) fl_X10_97 ⟨_, _, _, rfl, rfl, by decide +kernel⟩ rfl, ?_⟩
  refine List.forall_mem_cons.mpr ⟨ze_aload (by decide +kernel), ?_⟩
  refine List.forall_mem_cons.mpr ⟨ze_aload_n (k := 0) (by decide +kernel) rfl, ?_⟩
  refine List.forall_mem_cons.mpr ⟨ze_getL (by decide +kernel) fl_X10_11 rfl (by decide), ?_⟩
  refine List.forall_mem_cons.mpr ⟨ze_iload_n (k := 1) (by decide +kernel) rfl, ?_⟩
  refine List.forall_mem_cons.mpr ⟨ze_aald (by decide +kernel), ?_⟩
  refine List.forall_mem_cons.mpr ⟨ze_getI (by decide +kernel) fl_X10_110 rfl, ?_⟩
  refine List.forall_mem_cons.mpr ⟨ze_iconst (n := 1) (by decide +kernel) (by decide), ?_⟩
  refine List.forall_mem_cons.mpr ⟨ze_isub (by decide +kernel), ?_⟩
  refine List.forall_mem_cons.mpr ⟨ze_putI (by decide +kernel) fl_X10_110 ⟨_, _, _, rfl, rfl, by decide +kernel⟩ rfl, ?_⟩
  refine List.forall_mem_cons.mpr ⟨ze_aload_n (k := 0) (by decide +kernel) rfl, ?_⟩
  refine List.forall_mem_cons.mpr ⟨ze_getL (by decide +kernel) fl_X10_23 rfl (by decide), ?_⟩
  refine List.forall_mem_cons.mpr ⟨ze_aload (by decide +kernel), ?_⟩
  refine List.forall_mem_cons.mpr ⟨ze_iload_n (k := 2) (by decide +kernel) rfl, ?_⟩
  refine List.forall_mem_cons.mpr ⟨ze_iload_n (k := 3) (by decide +kernel) rfl, ?_⟩
  refine List.forall_mem_cons.mpr ⟨ze_iconst (n := 0) (by decide +kernel) (by decide), ?_⟩
  refine List.forall_mem_cons.mpr ⟨ze_callVF (idx := 113) (by decide +kernel) ml_X10_113 mv_X8_build rfl, ?_⟩
  refine List.forall_mem_cons.mpr ⟨ze_aload_n (k := 0) (by decide +kernel) rfl, ?_⟩
  refine List.forall_mem_cons.mpr ⟨ze_iload_n (k := 1) (by decide +kernel) rfl, ?_⟩
  refine List.forall_mem_cons.mpr ⟨ze_iconst (n := 1) (by decide +kernel) (by decide), ?_⟩
  refine List.forall_mem_cons.mpr ⟨ze_iadd (by decide +kernel), ?_⟩
  refine List.forall_mem_cons.mpr ⟨ze_iload_n (k := 2) (by decide +kernel) rfl, ?_⟩
  refine List.forall_mem_cons.mpr ⟨ze_iload_n (k := 3) (by decide +kernel) rfl, ?_⟩
  refine List.forall_mem_cons.mpr ⟨ze_iload (by decide +kernel), ?_⟩
  refine List.forall_mem_cons.mpr ⟨ze_aload_n (k := 0) (by decide +kernel) rfl, ?_⟩
  refine List.forall_mem_cons.mpr ⟨ze_getL (by decide +kernel) fl_X10_23 rfl (by decide), ?_⟩
  refine List.forall_mem_cons.mpr ⟨ze_iload_n (k := 2) (by decide +kernel) rfl, ?_⟩
  refine List.forall_mem_cons.mpr ⟨ze_callVF (idx := 117) (by decide +kernel) ml_X10_117 mv_X8_renewalAt rfl, ?_⟩
  refine List.forall_mem_cons.mpr ⟨ze_iadd (by decide +kernel), ?_⟩
  refine List.forall_mem_cons.mpr ⟨ze_callVF (idx := 72) (by decide +kernel) ml_X10_72 mv_X10_arrive rfl, ?_⟩
  refine List.forall_mem_cons.mpr ⟨ze_vret (by decide +kernel) rfl, ?_⟩
  exact fun _ h => absurd h List.not_mem_nil
theorem vX10_settleNotice {l : Launch} {G : GT} {d : Nat} {av : List Value} {Q : Po} {σ : Mm} (cs : List (Nat × List Nat)) (k : Nat) (h : vc l G d mX10_settleNotice TX10_settleNotice Q cs k TX10_settleNotice (lv_args 0 av) [] σ) (hlen : (lg_sl av).length ≤ mX10_settleNotice.2.2.1 := by exact Nat.le_of_ble_eq_true rfl) : MW l G d mX10_settleNotice av σ Q := mw_vc TX10_settleNotice_ok mc_X10_settleNotice rfl hlen cs k rfl h
theorem wX10_settleNotice {l : Launch} {G : GT} {d : Nat} {Q : Po} {pc : Nat} {lv : Lv} {st : List Value} {σ : Mm} (cs : List (Nat × List Nat)) (k : Nat) (h : vc l G d mX10_settleNotice TX10_settleNotice Q cs k (drp TX10_settleNotice pc) lv st σ) (hpc : hdp (drp TX10_settleNotice pc) = pc := by rfl) : Wp l G d mX10_settleNotice pc lv st σ Q := wp_vc TX10_settleNotice_ok cs k hpc h
def TX10_finish : List In := [(0, 1, zt_aload 0), (1, 2, zt_iload 3), (2, 5, zt_putI 18 0), (5, 6, zt_aload 0), (6, 7, zt_iload 1), (7, 10, zt_putI 18 1), (10, 11, zt_aload 0), (11, 12, zt_iload 2), (12, 15, zt_putI 18 2), (15, 16, zt_aload 0), (16, 19, zt_getI 18 12), (19, 22, zt_if_ne 23), (22, 23, zt_vret), (23, 24, zt_ic 1), (24, 25, zt_aload 0), (25, 28, zt_getL 18 8), (28, 29, zt_ic 1), (29, 30, zt_iald), (30, 31, zt_iload 2), (31, 32, zt_isub), (32, 33, zt_ishl), (33, 35, zt_istoreF 5), (35, 36, zt_aload 0), (36, 37, zt_aload 0), (37, 40, zt_getI 18 3), (40, 41, zt_iload 3), (41, 44, zt_min), (44, 47, zt_putI 18 3), (47, 48, zt_aload 0), (48, 49, zt_aload 0), (49, 52, zt_getI 18 4), (52, 53, zt_iload 3), (53, 56, zt_max), (56, 59, zt_putI 18 4), (59, 60, zt_aload 0), (60, 61, zt_dup), (61, 64, zt_getI 18 5), (64, 66, zt_iload 4), (66, 69, zt_if_eq 74), (69, 71, zt_iload 5), (71, 74, zt_goto 75), (74, 75, zt_ic 0), (75, 76, zt_iadd), (76, 79, zt_putI 18 5), (79, 80, zt_aload 0), (80, 81, zt_dup), (81, 84, zt_getI 18 7), (84, 85, zt_iload 3), (85, 87, zt_iload 5), (87, 88, zt_imul), (88, 89, zt_iadd), (89, 92, zt_putI 18 7), (92, 93, zt_iload 3), (93, 95, zt_ic 6), (95, 96, zt_ishr), (96, 98, zt_istoreF 6), (98, 100, zt_iload 6), (100, 103, zt_if_lt 156), (103, 105, zt_iload 6), (105, 108, zt_ic 2560), (108, 111, zt_icmp_ge 156), (111, 112, zt_aload 0), (112, 115, zt_getL 18 11), (115, 117, zt_iload 6), (117, 118, zt_lald), (118, 119, zt_iload 3), (119, 121, zt_ic 63), (121, 122, zt_iand), (122, 123, zt_lushr), (123, 124, zt_lc 1), (124, 125, zt_land), (125, 126, zt_lc 0), (126, 127, zt_lcmp), (127, 130, zt_if_ne 156), (130, 131, zt_aload 0), (131, 134, zt_getL 18 11), (134, 136, zt_iload 6), (136, 137, zt_dup2), (137, 138, zt_lald), (138, 139, zt_lc 1), (139, 140, zt_iload 3), (140, 142, zt_ic 63), (142, 143, zt_iand), (143, 144, zt_lshl), (144, 145, zt_lor), (145, 146, zt_lastoreF), (146, 147, zt_aload 0), (147, 148, zt_dup), (148, 151, zt_getI 18 6), (151, 152, zt_ic 1), (152, 153, zt_iadd), (153, 156, zt_putI 18 6), (156, 157, zt_vret)]
theorem TX10_finish_ok : ∀ i ∈ TX10_finish, Ent mX10_finish i := by
  refine List.forall_mem_cons.mpr ⟨ze_aload_n (k := 0) (by decide +kernel) rfl, ?_⟩
  refine List.forall_mem_cons.mpr ⟨ze_iload_n (k := 3) (by decide +kernel) rfl, ?_⟩
  refine List.forall_mem_cons.mpr ⟨ze_putI (by decide +kernel) fl_X10_120 ⟨_, _, _, rfl, rfl, by decide +kernel⟩ rfl, ?_⟩
  refine List.forall_mem_cons.mpr ⟨ze_aload_n (k := 0) (by decide +kernel) rfl, ?_⟩
  refine List.forall_mem_cons.mpr ⟨ze_iload_n (k := 1) (by decide +kernel) rfl, ?_⟩
  refine List.forall_mem_cons.mpr ⟨ze_putI (by decide +kernel) fl_X10_123 ⟨_, _, _, rfl, rfl, by decide +kernel⟩ rfl, ?_⟩
  refine List.forall_mem_cons.mpr ⟨ze_aload_n (k := 0) (by decide +kernel) rfl, ?_⟩
  refine List.forall_mem_cons.mpr ⟨ze_iload_n (k := 2) (by decide +kernel) rfl, ?_⟩
  refine List.forall_mem_cons.mpr ⟨ze_putI (by decide +kernel) fl_X10_126 ⟨_, _, _, rfl, rfl, by decide +kernel⟩ rfl, ?_⟩
  refine List.forall_mem_cons.mpr ⟨ze_aload_n (k := 0) (by decide +kernel) rfl, ?_⟩
  refine List.forall_mem_cons.mpr ⟨ze_getI (by decide +kernel) fl_X10_34 rfl, ?_⟩
  refine List.forall_mem_cons.mpr ⟨ze_if_ne (off := 4) (by decide +kernel) (by decide), ?_⟩
  refine List.forall_mem_cons.mpr ⟨ze_vret (by decide +kernel) rfl, ?_⟩
  refine List.forall_mem_cons.mpr ⟨ze_iconst (n := 1) (by decide +kernel) (by decide), ?_⟩
  refine List.forall_mem_cons.mpr ⟨ze_aload_n (k := 0) (by decide +kernel) rfl, ?_⟩
  refine List.forall_mem_cons.mpr ⟨ze_getL (by decide +kernel) fl_X10_19 rfl (by decide), ?_⟩
  refine List.forall_mem_cons.mpr ⟨ze_iconst (n := 1) (by decide +kernel) (by decide), ?_⟩
  refine List.forall_mem_cons.mpr ⟨ze_iald (by decide +kernel), ?_⟩
  refine List.forall_mem_cons.mpr ⟨ze_iload_n (k := 2) (by decide +kernel) rfl, ?_⟩
  refine List.forall_mem_cons.mpr ⟨ze_isub (by decide +kernel), ?_⟩
  refine List.forall_mem_cons.mpr ⟨ze_ishl (by decide +kernel), ?_⟩
  refine List.forall_mem_cons.mpr ⟨ze_istoreF (by decide +kernel) (by decide), ?_⟩
  refine List.forall_mem_cons.mpr ⟨ze_aload_n (k := 0) (by decide +kernel) rfl, ?_⟩
  refine List.forall_mem_cons.mpr ⟨ze_aload_n (k := 0) (by decide +kernel) rfl, ?_⟩
  refine List.forall_mem_cons.mpr ⟨ze_getI (by decide +kernel) fl_X10_48 rfl, ?_⟩
  refine List.forall_mem_cons.mpr ⟨ze_iload_n (k := 3) (by decide +kernel) rfl, ?_⟩
  refine List.forall_mem_cons.mpr ⟨ze_min (idx := 129) (by decide +kernel) ml_X10_129 jmn.1 jmn.2.1 jmn.2.2, ?_⟩
  refine List.forall_mem_cons.mpr ⟨ze_putI (by decide +kernel) fl_X10_48 ⟨_, _, _, rfl, rfl, by decide +kernel⟩ rfl, ?_⟩
  refine List.forall_mem_cons.mpr ⟨ze_aload_n (k := 0) (by decide +kernel) rfl, ?_⟩
  refine List.forall_mem_cons.mpr ⟨ze_aload_n (k := 0) (by decide +kernel) rfl, ?_⟩
  refine List.forall_mem_cons.mpr ⟨ze_getI (by decide +kernel) fl_X10_50 rfl, ?_⟩
  refine List.forall_mem_cons.mpr ⟨ze_iload_n (k := 3) (by decide +kernel) rfl, ?_⟩
  refine List.forall_mem_cons.mpr ⟨ze_max (idx := 134) (by decide +kernel) ml_X10_134 jmx.1 jmx.2.1 jmx.2.2, ?_⟩
  refine List.forall_mem_cons.mpr ⟨ze_putI (by decide +kernel) fl_X10_50 ⟨_, _, _, rfl, rfl, by decide +kernel⟩ rfl, ?_⟩
  refine List.forall_mem_cons.mpr ⟨ze_aload_n (k := 0) (by decide +kernel) rfl, ?_⟩
  refine List.forall_mem_cons.mpr ⟨ze_dup (by decide +kernel), ?_⟩
  refine List.forall_mem_cons.mpr ⟨ze_getI (by decide +kernel) fl_X10_53 rfl, ?_⟩
  refine List.forall_mem_cons.mpr ⟨ze_iload (by decide +kernel), ?_⟩
  refine List.forall_mem_cons.mpr ⟨ze_if_eq (off := 8) (by decide +kernel) (by decide), ?_⟩
  refine List.forall_mem_cons.mpr ⟨ze_iload (by decide +kernel), ?_⟩
  refine List.forall_mem_cons.mpr ⟨ze_goto (off := 4) (by decide +kernel) (by decide), ?_⟩
  refine List.forall_mem_cons.mpr ⟨ze_iconst (n := 0) (by decide +kernel) (by decide), ?_⟩
  refine List.forall_mem_cons.mpr ⟨ze_iadd (by decide +kernel), ?_⟩
  refine List.forall_mem_cons.mpr ⟨ze_putI (by decide +kernel) fl_X10_53 ⟨_, _, _, rfl, rfl, by decide +kernel⟩ rfl, ?_⟩
  refine List.forall_mem_cons.mpr ⟨ze_aload_n (k := 0) (by decide +kernel) rfl, ?_⟩
  refine List.forall_mem_cons.mpr ⟨ze_dup (by decide +kernel), ?_⟩
  refine List.forall_mem_cons.mpr ⟨ze_getI (by decide +kernel) fl_X10_59 rfl, ?_⟩
  refine List.forall_mem_cons.mpr ⟨ze_iload_n (k := 3) (by decide +kernel) rfl, ?_⟩
  refine List.forall_mem_cons.mpr ⟨ze_iload (by decide +kernel), ?_⟩
  refine List.forall_mem_cons.mpr ⟨ze_imul (by decide +kernel), ?_⟩
  refine List.forall_mem_cons.mpr ⟨ze_iadd (by decide +kernel), ?_⟩
  refine List.forall_mem_cons.mpr ⟨ze_putI (by decide +kernel) fl_X10_59 ⟨_, _, _, rfl, rfl, by decide +kernel⟩ rfl, ?_⟩
  refine List.forall_mem_cons.mpr ⟨ze_iload_n (k := 3) (by decide +kernel) rfl, ?_⟩
  refine List.forall_mem_cons.mpr ⟨ze_bipush (n := 6) (by decide +kernel) (by decide), ?_⟩
  refine List.forall_mem_cons.mpr ⟨ze_ishr (by decide +kernel), ?_⟩
  refine List.forall_mem_cons.mpr ⟨ze_istoreF (by decide +kernel) (by decide), ?_⟩
  refine List.forall_mem_cons.mpr ⟨ze_iload (by decide +kernel), ?_⟩
  refine List.forall_mem_cons.mpr ⟨ze_if_lt (off := 56) (by decide +kernel) (by decide), ?_⟩
  refine List.forall_mem_cons.mpr ⟨ze_iload (by decide +kernel), ?_⟩
  refine List.forall_mem_cons.mpr ⟨ze_sipush (n := 2560) (by decide +kernel) (by decide), ?_⟩
  refine List.forall_mem_cons.mpr ⟨ze_icmp_ge (off := 48) (by decide +kernel) (by decide), ?_⟩
  refine List.forall_mem_cons.mpr ⟨ze_aload_n (k := 0) (by decide +kernel) rfl, ?_⟩
  refine List.forall_mem_cons.mpr ⟨ze_getL (by decide +kernel) fl_X10_15 rfl (by decide), ?_⟩
  refine List.forall_mem_cons.mpr ⟨ze_iload (by decide +kernel), ?_⟩
  refine List.forall_mem_cons.mpr ⟨ze_lald (by decide +kernel), ?_⟩
  refine List.forall_mem_cons.mpr ⟨ze_iload_n (k := 3) (by decide +kernel) rfl, ?_⟩
  refine List.forall_mem_cons.mpr ⟨ze_bipush (n := 63) (by decide +kernel) (by decide), ?_⟩
  refine List.forall_mem_cons.mpr ⟨ze_iand (by decide +kernel), ?_⟩
  refine List.forall_mem_cons.mpr ⟨ze_lushr (by decide +kernel), ?_⟩
  refine List.forall_mem_cons.mpr ⟨ze_lconst (n := 1) (by decide +kernel) (by decide), ?_⟩
  refine List.forall_mem_cons.mpr ⟨ze_land (by decide +kernel), ?_⟩
  refine List.forall_mem_cons.mpr ⟨ze_lconst (n := 0) (by decide +kernel) (by decide), ?_⟩
  refine List.forall_mem_cons.mpr ⟨ze_lcmp (by decide +kernel), ?_⟩
  refine List.forall_mem_cons.mpr ⟨ze_if_ne (off := 29) (by decide +kernel) (by decide), ?_⟩
  refine List.forall_mem_cons.mpr ⟨ze_aload_n (k := 0) (by decide +kernel) rfl, ?_⟩
  refine List.forall_mem_cons.mpr ⟨ze_getL (by decide +kernel) fl_X10_15 rfl (by decide), ?_⟩
  refine List.forall_mem_cons.mpr ⟨ze_iload (by decide +kernel), ?_⟩
  refine List.forall_mem_cons.mpr ⟨ze_dup2 (by decide +kernel), ?_⟩
  refine List.forall_mem_cons.mpr ⟨ze_lald (by decide +kernel), ?_⟩
  refine List.forall_mem_cons.mpr ⟨ze_lconst (n := 1) (by decide +kernel) (by decide), ?_⟩
  refine List.forall_mem_cons.mpr ⟨ze_iload_n (k := 3) (by decide +kernel) rfl, ?_⟩
  refine List.forall_mem_cons.mpr ⟨ze_bipush (n := 63) (by decide +kernel) (by decide), ?_⟩
  refine List.forall_mem_cons.mpr ⟨ze_iand (by decide +kernel), ?_⟩
  refine List.forall_mem_cons.mpr ⟨ze_lshl (by decide +kernel), ?_⟩
  refine List.forall_mem_cons.mpr ⟨ze_lor (by decide +kernel), ?_⟩
  refine List.forall_mem_cons.mpr ⟨ze_lastoreF (by decide +kernel), ?_⟩
  refine List.forall_mem_cons.mpr ⟨ze_aload_n (k := 0) (by decide +kernel) rfl, ?_⟩
  refine List.forall_mem_cons.mpr ⟨ze_dup (by decide +kernel), ?_⟩
  refine List.forall_mem_cons.mpr ⟨ze_getI (by decide +kernel) fl_X10_56 rfl, ?_⟩
  refine List.forall_mem_cons.mpr ⟨ze_iconst (n := 1) (by decide +kernel) (by decide), ?_⟩
  refine List.forall_mem_cons.mpr ⟨ze_iadd (by decide +kernel), ?_⟩
  refine List.forall_mem_cons.mpr ⟨ze_putI (by decide +kernel) fl_X10_56 ⟨_, _, _, rfl, rfl, by decide +kernel⟩ rfl, ?_⟩
  refine List.forall_mem_cons.mpr ⟨ze_vret (by decide +kernel) rfl, ?_⟩
  exact fun _ h => absurd h List.not_mem_nil
theorem vX10_finish {l : Launch} {G : GT} {d : Nat} {av : List Value} {Q : Po} {σ : Mm} (cs : List (Nat × List Nat)) (k : Nat) (h : vc l G d mX10_finish TX10_finish Q cs k TX10_finish (lv_args 0 av) [] σ) (hlen : (lg_sl av).length ≤ mX10_finish.2.2.1 := by exact Nat.le_of_ble_eq_true rfl) : MW l G d mX10_finish av σ Q := mw_vc TX10_finish_ok mc_X10_finish rfl hlen cs k rfl h
theorem wX10_finish {l : Launch} {G : GT} {d : Nat} {Q : Po} {pc : Nat} {lv : Lv} {st : List Value} {σ : Mm} (cs : List (Nat × List Nat)) (k : Nat) (h : vc l G d mX10_finish TX10_finish Q cs k (drp TX10_finish pc) lv st σ) (hpc : hdp (drp TX10_finish pc) = pc := by rfl) : Wp l G d mX10_finish pc lv st σ Q := wp_vc TX10_finish_ok cs k hpc h
