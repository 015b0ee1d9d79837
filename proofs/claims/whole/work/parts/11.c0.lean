def TX0_deedOf : List In := [(0, 1, zt_aload 0), (1, 3, zt_ic 103), (3, 4, zt_iload 1), (4, 5, zt_iadd), (5, 6, zt_iaload), (6, 7, zt_ic 2), (7, 8, zt_iload 2), (8, 9, zt_imul), (9, 10, zt_ishr), (10, 11, zt_ic 3), (11, 12, zt_iand), (12, 13, zt_iret)]
theorem TX0_deedOf_ok : ∀ i ∈ TX0_deedOf, Ent mX0_deedOf i := by
  refine List.forall_mem_cons.mpr ⟨ze_aload_n (k := 0) (by decide +kernel) rfl, ?_⟩
  refine List.forall_mem_cons.mpr ⟨ze_bipush (n := 103) (by decide +kernel) (by decide), ?_⟩
  refine List.forall_mem_cons.mpr ⟨ze_iload_n (k := 1) (by decide +kernel) rfl, ?_⟩
  refine List.forall_mem_cons.mpr ⟨ze_iadd (by decide +kernel), ?_⟩
  refine List.forall_mem_cons.mpr ⟨ze_iaload (by decide +kernel), ?_⟩
  refine List.forall_mem_cons.mpr ⟨ze_iconst (n := 2) (by decide +kernel) (by decide), ?_⟩
  refine List.forall_mem_cons.mpr ⟨ze_iload_n (k := 2) (by decide +kernel) rfl, ?_⟩
  refine List.forall_mem_cons.mpr ⟨ze_imul (by decide +kernel), ?_⟩
  refine List.forall_mem_cons.mpr ⟨ze_ishr (by decide +kernel), ?_⟩
  refine List.forall_mem_cons.mpr ⟨ze_iconst (n := 3) (by decide +kernel) (by decide), ?_⟩
  refine List.forall_mem_cons.mpr ⟨ze_iand (by decide +kernel), ?_⟩
  refine List.forall_mem_cons.mpr ⟨ze_iret (by decide +kernel) rfl, ?_⟩
  exact fun _ h => absurd h List.not_mem_nil
theorem vX0_deedOf {l : Launch} {G : GT} {d : Nat} {av : List Value} {Q : Po} {σ : Mm} (cs : List (Nat × List Nat)) (k : Nat) (h : vc l G d mX0_deedOf TX0_deedOf Q cs k TX0_deedOf (lv_args 0 av) [] σ) (hlen : (lg_sl av).length ≤ mX0_deedOf.2.2.1 := by exact Nat.le_of_ble_eq_true rfl) : MW l G d mX0_deedOf av σ Q := mw_vc TX0_deedOf_ok mc_X0_deedOf rfl hlen cs k rfl h
theorem wX0_deedOf {l : Launch} {G : GT} {d : Nat} {Q : Po} {pc : Nat} {lv : Lv} {st : List Value} {σ : Mm} (cs : List (Nat × List Nat)) (k : Nat) (h : vc l G d mX0_deedOf TX0_deedOf Q cs k (drp TX0_deedOf pc) lv st σ) (hpc : hdp (drp TX0_deedOf pc) = pc := by rfl) : Wp l G d mX0_deedOf pc lv st σ Q := wp_vc TX0_deedOf_ok cs k hpc h
def TX0_setDeed : List In := [(0, 1, zt_aload 0), (1, 3, zt_ic 103), (3, 4, zt_iload 1), (4, 5, zt_iadd), (5, 6, zt_aload 0), (6, 8, zt_ic 103), (8, 9, zt_iload 1), (9, 10, zt_iadd), (10, 11, zt_iaload), (11, 12, zt_ic 3), (12, 13, zt_ic 2), (13, 14, zt_iload 2), (14, 15, zt_imul), (15, 16, zt_ishl), (16, 17, zt_ic (-1)), (17, 18, zt_ixor), (18, 19, zt_iand), (19, 20, zt_iload 3), (20, 21, zt_ic 2), (21, 22, zt_iload 2), (22, 23, zt_imul), (23, 24, zt_ishl), (24, 25, zt_ior), (25, 26, zt_iastore), (26, 27, zt_vret)]
theorem TX0_setDeed_ok : ∀ i ∈ TX0_setDeed, Ent mX0_setDeed i := by
  refine List.forall_mem_cons.mpr ⟨ze_aload_n (k := 0) (by decide +kernel) rfl, ?_⟩
  refine List.forall_mem_cons.mpr ⟨ze_bipush (n := 103) (by decide +kernel) (by decide), ?_⟩
  refine List.forall_mem_cons.mpr ⟨ze_iload_n (k := 1) (by decide +kernel) rfl, ?_⟩
  refine List.forall_mem_cons.mpr ⟨ze_iadd (by decide +kernel), ?_⟩
  refine List.forall_mem_cons.mpr ⟨ze_aload_n (k := 0) (by decide +kernel) rfl, ?_⟩
  refine List.forall_mem_cons.mpr ⟨ze_bipush (n := 103) (by decide +kernel) (by decide), ?_⟩
  refine List.forall_mem_cons.mpr ⟨ze_iload_n (k := 1) (by decide +kernel) rfl, ?_⟩
  refine List.forall_mem_cons.mpr ⟨ze_iadd (by decide +kernel), ?_⟩
  refine List.forall_mem_cons.mpr ⟨ze_iaload (by decide +kernel), ?_⟩
  refine List.forall_mem_cons.mpr ⟨ze_iconst (n := 3) (by decide +kernel) (by decide), ?_⟩
  refine List.forall_mem_cons.mpr ⟨ze_iconst (n := 2) (by decide +kernel) (by decide), ?_⟩
  refine List.forall_mem_cons.mpr ⟨ze_iload_n (k := 2) (by decide +kernel) rfl, ?_⟩
  refine List.forall_mem_cons.mpr ⟨ze_imul (by decide +kernel), ?_⟩
  refine List.forall_mem_cons.mpr ⟨ze_ishl (by decide +kernel), ?_⟩
  refine List.forall_mem_cons.mpr ⟨ze_iconst (n := -1) (by decide +kernel) (by decide), ?_⟩
  refine List.forall_mem_cons.mpr ⟨ze_ixor (by decide +kernel), ?_⟩
  refine List.forall_mem_cons.mpr ⟨ze_iand (by decide +kernel), ?_⟩
  refine List.forall_mem_cons.mpr ⟨ze_iload_n (k := 3) (by decide +kernel) rfl, ?_⟩
  refine List.forall_mem_cons.mpr ⟨ze_iconst (n := 2) (by decide +kernel) (by decide), ?_⟩
  refine List.forall_mem_cons.mpr ⟨ze_iload_n (k := 2) (by decide +kernel) rfl, ?_⟩
  refine List.forall_mem_cons.mpr ⟨ze_imul (by decide +kernel), ?_⟩
  refine List.forall_mem_cons.mpr ⟨ze_ishl (by decide +kernel), ?_⟩
  refine List.forall_mem_cons.mpr ⟨ze_ior (by decide +kernel), ?_⟩
  refine List.forall_mem_cons.mpr ⟨ze_iastore (by decide +kernel), ?_⟩
  refine List.forall_mem_cons.mpr ⟨ze_vret (by decide +kernel) rfl, ?_⟩
  exact fun _ h => absurd h List.not_mem_nil
theorem vX0_setDeed {l : Launch} {G : GT} {d : Nat} {av : List Value} {Q : Po} {σ : Mm} (cs : List (Nat × List Nat)) (k : Nat) (h : vc l G d mX0_setDeed TX0_setDeed Q cs k TX0_setDeed (lv_args 0 av) [] σ) (hlen : (lg_sl av).length ≤ mX0_setDeed.2.2.1 := by exact Nat.le_of_ble_eq_true rfl) : MW l G d mX0_setDeed av σ Q := mw_vc TX0_setDeed_ok mc_X0_setDeed rfl hlen cs k rfl h
theorem wX0_setDeed {l : Launch} {G : GT} {d : Nat} {Q : Po} {pc : Nat} {lv : Lv} {st : List Value} {σ : Mm} (cs : List (Nat × List Nat)) (k : Nat) (h : vc l G d mX0_setDeed TX0_setDeed Q cs k (drp TX0_setDeed pc) lv st σ) (hpc : hdp (drp TX0_setDeed pc) = pc := by rfl) : Wp l G d mX0_setDeed pc lv st σ Q := wp_vc TX0_setDeed_ok cs k hpc h
def TX1_pour : List In := [(0, 1, zt_aload 1), (1, 2, zt_ic 0), (2, 3, zt_iaload), (3, 4, zt_istore 3), (4, 5, zt_aload 1), (5, 6, zt_ic 1), (6, 7, zt_iaload), (7, 9, zt_istore 4), (9, 10, zt_aload 0), (10, 13, zt_getR 10 0), (13, 14, zt_ic 0), (14, 17, zt_callS mJ7_fill_53178 2), (17, 18, zt_aload 0), (18, 21, zt_getR 10 0), (21, 22, zt_iload 3), (22, 24, zt_iload 4), (24, 27, zt_callS mX8_nodeOf 2), (27, 29, zt_ic (1000000000 : Int32)), (29, 30, zt_iastore), (30, 31, zt_iload 3), (31, 33, zt_istore 5), (33, 35, zt_iload 5), (35, 36, zt_aload 0), (36, 39, zt_getR 10 1), (39, 40, zt_ic 1), (40, 41, zt_iaload), (41, 44, zt_icmp_ge 157), (44, 46, zt_iload 5), (46, 48, zt_iload 4), (48, 51, zt_callS mX8_nodeOf 2), (51, 53, zt_istore 6), (53, 55, zt_iload 6), (55, 57, zt_istore 7), (57, 59, zt_iload 7), (59, 61, zt_iload 6), (61, 63, zt_iload 5), (63, 64, zt_iadd), (64, 65, zt_iload 3), (65, 66, zt_isub), (66, 69, zt_icmp_gt 151), (69, 70, zt_aload 2), (70, 73, zt_getR 15 2), (73, 75, zt_iload 7), (75, 76, zt_iaload), (76, 79, zt_if_ne 145), (79, 80, zt_aload 0), (80, 83, zt_getR 10 0), (83, 85, zt_iload 7), (85, 86, zt_iaload), (86, 87, zt_i2l), (87, 88, zt_aload 0), (88, 91, zt_getR 10 1), (91, 93, zt_ic 6), (93, 94, zt_iaload), (94, 95, zt_i2l), (95, 96, zt_lmul), (96, 99, zt_lc (100 : Int64)), (99, 100, zt_ldiv), (100, 101, zt_l2i), (101, 103, zt_istore 8), (103, 104, zt_aload 0), (104, 107, zt_getR 10 0), (107, 109, zt_iload 7), (109, 111, zt_iload 5), (111, 112, zt_iadd), (112, 113, zt_ic 2), (113, 114, zt_iadd), (114, 115, zt_dup2), (115, 116, zt_iaload), (116, 118, zt_iload 8), (118, 119, zt_iadd), (119, 120, zt_iastore), (120, 121, zt_aload 0), (121, 124, zt_getR 10 0), (124, 126, zt_iload 7), (126, 128, zt_iload 5), (128, 129, zt_iadd), (129, 130, zt_ic 1), (130, 131, zt_iadd), (131, 132, zt_dup2), (132, 133, zt_iaload), (133, 134, zt_aload 0), (134, 137, zt_getR 10 0), (137, 139, zt_iload 7), (139, 140, zt_iaload), (140, 142, zt_iload 8), (142, 143, zt_isub), (143, 144, zt_iadd), (144, 145, zt_iastore), (145, 148, zt_iinc 7 1), (148, 151, zt_goto 57), (151, 154, zt_iinc 5 1), (154, 157, zt_goto 33), (157, 158, zt_vret)]
theorem TX1_pour_ok : ∀ i ∈ TX1_pour, Ent mX1_pour i := by
  refine List.forall_mem_cons.mpr ⟨ze_aload_n (k := 1) (by decide +kernel) rfl, ?_⟩
  refine List.forall_mem_cons.mpr ⟨ze_iconst (n := 0) (by decide +kernel) (by decide), ?_⟩
  refine List.forall_mem_cons.mpr ⟨ze_iaload (by decide +kernel), ?_⟩
  refine List.forall_mem_cons.mpr ⟨ze_istore_n (k := 3) (by decide +kernel) rfl (by decide), ?_⟩
  refine List.forall_mem_cons.mpr ⟨ze_aload_n (k := 1) (by decide +kernel) rfl, ?_⟩
  refine List.forall_mem_cons.mpr ⟨ze_iconst (n := 1) (by decide +kernel) (by decide), ?_⟩
  refine List.forall_mem_cons.mpr ⟨ze_iaload (by decide +kernel), ?_⟩
  refine List.forall_mem_cons.mpr ⟨ze_istore (by decide +kernel) (by decide), ?_⟩
  refine List.forall_mem_cons.mpr ⟨ze_aload_n (k := 0) (by decide +kernel) rfl, ?_⟩
  refine List.forall_mem_cons.mpr ⟨ze_getR (by decide +kernel) fl_X1_9 rfl, ?_⟩
  refine List.forall_mem_cons.mpr ⟨ze_iconst (n := 0) (by decide +kernel) (by decide), ?_⟩
  refine List.forall_mem_cons.mpr ⟨ze_callS (idx := 20) (by decide +kernel) ml_X1_20 ms_J7_fill_53178, ?_⟩
  refine List.forall_mem_cons.mpr ⟨ze_aload_n (k := 0) (by decide +kernel) rfl, ?_⟩
  refine List.forall_mem_cons.mpr ⟨ze_getR (by decide +kernel) fl_X1_9 rfl, ?_⟩
  refine List.forall_mem_cons.mpr ⟨ze_iload_n (k := 3) (by decide +kernel) rfl, ?_⟩
  refine List.forall_mem_cons.mpr ⟨ze_iload (by decide +kernel), ?_⟩
  refine List.forall_mem_cons.mpr ⟨ze_callS (idx := 26) (by decide +kernel) ml_X1_26 ms_X8_nodeOf, ?_⟩
  refine List.forall_mem_cons.mpr ⟨ze_ldc (i := 30) (by decide +kernel) kc_X1_30, ?_⟩
  refine List.forall_mem_cons.mpr ⟨ze_iastore (by decide +kernel), ?_⟩
  refine List.forall_mem_cons.mpr ⟨ze_iload_n (k := 3) (by decide +kernel) rfl, ?_⟩
  refine List.forall_mem_cons.mpr ⟨ze_istore (by decide +kernel) (by decide), ?_⟩
  refine List.forall_mem_cons.mpr ⟨ze_iload (by decide +kernel), ?_⟩
  refine List.forall_mem_cons.mpr ⟨ze_aload_n (k := 0) (by decide +kernel) rfl, ?_⟩
  refine List.forall_mem_cons.mpr ⟨ze_getR (by decide +kernel) fl_X1_15 rfl, ?_⟩
  refine List.forall_mem_cons.mpr ⟨ze_iconst (n := 1) (by decide +kernel) (by decide), ?_⟩
  refine List.forall_mem_cons.mpr ⟨ze_iaload (by decide +kernel), ?_⟩
  refine List.forall_mem_cons.mpr ⟨ze_icmp_ge (off := 116) (by decide +kernel) (by decide), ?_⟩
  refine List.forall_mem_cons.mpr ⟨ze_iload (by decide +kernel), ?_⟩
  refine List.forall_mem_cons.mpr ⟨ze_iload (by decide +kernel), ?_⟩
  refine List.forall_mem_cons.mpr ⟨ze_callS (idx := 26) (by decide +kernel) ml_X1_26 ms_X8_nodeOf, ?_⟩
  refine List.forall_mem_cons.mpr ⟨ze_istore (by decide +kernel) (by decide), ?_⟩
  refine List.forall_mem_cons.mpr ⟨ze_iload (by decide +kernel), ?_⟩
  refine List.forall_mem_cons.mpr ⟨ze_istore (by decide +kernel) (by decide), ?_⟩
  refine List.forall_mem_cons.mpr ⟨ze_iload (by decide +kernel), ?_⟩
  refine List.forall_mem_cons.mpr ⟨ze_iload (by decide +kernel), ?_⟩
  refine List.forall_mem_cons.mpr ⟨ze_iload (by decide +kernel), ?_⟩
  refine List.forall_mem_cons.mpr ⟨ze_iadd (by decide +kernel), ?_⟩
  refine List.forall_mem_cons.mpr ⟨ze_iload_n (k := 3) (by decide +kernel) rfl, ?_⟩
  refine List.forall_mem_cons.mpr ⟨ze_isub (by decide +kernel), ?_⟩
  refine List.forall_mem_cons.mpr ⟨ze_icmp_gt (off := 85) (by decide +kernel) (by decide), ?_⟩
  refine List.forall_mem_cons.mpr ⟨ze_aload_n (k := 2) (by decide +kernel) rfl, ?_⟩
  refine List.forall_mem_cons.mpr ⟨ze_getR (by decide +kernel) fl_X1_33 rfl, ?_⟩
  refine List.forall_mem_cons.mpr ⟨ze_iload (by decide +kernel), ?_⟩
  refine List.forall_mem_cons.mpr ⟨ze_iaload (by decide +kernel), ?_⟩
  refine List.forall_mem_cons.mpr ⟨ze_if_ne (off := 69) (by decide +kernel) (by decide), ?_⟩
  refine List.forall_mem_cons.mpr ⟨ze_aload_n (k := 0) (by decide +kernel) rfl, ?_⟩
  refine List.forall_mem_cons.mpr ⟨ze_getR (by decide +kernel) fl_X1_9 rfl, ?_⟩
  refine List.forall_mem_cons.mpr ⟨ze_iload (by decide +kernel), ?_⟩
  refine List.forall_mem_cons.mpr ⟨ze_iaload (by decide +kernel), ?_⟩
  refine List.forall_mem_cons.mpr ⟨ze_i2l (by decide +kernel), ?_⟩
  refine List.forall_mem_cons.mpr ⟨ze_aload_n (k := 0) (by decide +kernel) rfl, ?_⟩
  refine List.forall_mem_cons.mpr ⟨ze_getR (by decide +kernel) fl_X1_15 rfl, ?_⟩
  refine List.forall_mem_cons.mpr ⟨ze_bipush (n := 6) (by decide +kernel) (by decide), ?_⟩
  refine List.forall_mem_cons.mpr ⟨ze_iaload (by decide +kernel), ?_⟩
  refine List.forall_mem_cons.mpr ⟨ze_i2l (by decide +kernel), ?_⟩
  refine List.forall_mem_cons.mpr ⟨ze_lmul (by decide +kernel), ?_⟩
  refine List.forall_mem_cons.mpr ⟨ze_ldc2 (i := 38) (by decide +kernel) kc_X1_38, ?_⟩
  refine List.forall_mem_cons.mpr ⟨ze_ldiv (by decide +kernel), ?_⟩
  refine List.forall_mem_cons.mpr ⟨ze_l2i (by decide +kernel), ?_⟩
  refine List.forall_mem_cons.mpr ⟨ze_istore (by decide +kernel) (by decide), ?_⟩
  refine List.forall_mem_cons.mpr ⟨ze_aload_n (k := 0) (by decide +kernel) rfl, ?_⟩
  refine List.forall_mem_cons.mpr ⟨ze_getR (by decide +kernel) fl_X1_9 rfl, ?_⟩
  refine List.forall_mem_cons.mpr ⟨ze_iload (by decide +kernel), ?_⟩
  refine List.forall_mem_cons.mpr ⟨ze_iload (by decide +kernel), ?_⟩
  refine List.forall_mem_cons.mpr ⟨ze_iadd (by decide +kernel), ?_⟩
  refine List.forall_mem_cons.mpr ⟨ze_iconst (n := 2) (by decide +kernel) (by decide), ?_⟩
  refine List.forall_mem_cons.mpr ⟨ze_iadd (by decide +kernel), ?_⟩
  refine List.forall_mem_cons.mpr ⟨ze_dup2 (by decide +kernel), ?_⟩
  refine List.forall_mem_cons.mpr ⟨ze_iaload (by decide +kernel), ?_⟩
  refine List.forall_mem_cons.mpr ⟨ze_iload (by decide +kernel), ?_⟩
  refine List.forall_mem_cons.mpr ⟨ze_iadd (by decide +kernel), ?_⟩
  refine List.forall_mem_cons.mpr ⟨ze_iastore (by decide +kernel), ?_⟩
  refine List.forall_mem_cons.mpr ⟨ze_aload_n (k := 0) (by decide +kernel) rfl, ?_⟩
  refine List.forall_mem_cons.mpr ⟨ze_getR (by decide +kernel) fl_X1_9 rfl, ?_⟩
  refine List.forall_mem_cons.mpr ⟨ze_iload (by decide +kernel), ?_⟩
  refine List.forall_mem_cons.mpr ⟨ze_iload (by decide +kernel), ?_⟩
  refine List.forall_mem_cons.mpr ⟨ze_iadd (by decide +kernel), ?_⟩
  refine List.forall_mem_cons.mpr ⟨ze_iconst (n := 1) (by decide +kernel) (by decide), ?_⟩
  refine List.forall_mem_cons.mpr ⟨ze_iadd (by decide +kernel), ?_⟩
  refine List.forall_mem_cons.mpr ⟨ze_dup2 (by decide +kernel), ?_⟩
  refine List.forall_mem_cons.mpr ⟨ze_iaload (by decide +kernel), ?_⟩
  refine List.forall_mem_cons.mpr ⟨ze_aload_n (k := 0) (by decide +kernel) rfl, ?_⟩
  refine List.forall_mem_cons.mpr ⟨ze_getR (by decide +kernel) fl_X1_9 rfl, ?_⟩
  refine List.forall_mem_cons.mpr ⟨ze_iload (by decide +kernel), ?_⟩
  refine List.forall_mem_cons.mpr ⟨ze_iaload (by decide +kernel), ?_⟩
  refine List.forall_mem_cons.mpr ⟨ze_iload (by decide +kernel), ?_⟩
  refine List.forall_mem_cons.mpr ⟨ze_isub (by decide +kernel), ?_⟩
  refine List.forall_mem_cons.mpr ⟨ze_iadd (by decide +kernel), ?_⟩
  refine List.forall_mem_cons.mpr ⟨ze_iastore (by decide +kernel), ?_⟩
  refine List.forall_mem_cons.mpr ⟨ze_iinc (n := 1) (by decide +kernel) (by decide) (by decide), ?_⟩
  refine List.forall_mem_cons.mpr ⟨ze_goto (off := -91) (by decide +kernel) (by decide), ?_⟩
  refine List.forall_mem_cons.mpr ⟨ze_iinc (n := 1) (by decide +kernel) (by decide) (by decide), ?_⟩
  refine List.forall_mem_cons.mpr ⟨ze_goto (off := -121) (by decide +kernel) (by decide), ?_⟩
  refine List.forall_mem_cons.mpr ⟨ze_vret (by decide +kernel) rfl, ?_⟩
  exact fun _ h => absurd h List.not_mem_nil
theorem vX1_pour {l : Launch} {G : GT} {d : Nat} {av : List Value} {Q : Po} {σ : Mm} (cs : List (Nat × List Nat)) (k : Nat) (h : vc l G d mX1_pour TX1_pour Q cs k TX1_pour (lv_args 0 av) [] σ) (hlen : (lg_sl av).length ≤ mX1_pour.2.2.1 := by exact Nat.le_of_ble_eq_true rfl) : MW l G d mX1_pour av σ Q := mw_vc TX1_pour_ok mc_X1_pour rfl hlen cs k rfl h
theorem wX1_pour {l : Launch} {G : GT} {d : Nat} {Q : Po} {pc : Nat} {lv : Lv} {st : List Value} {σ : Mm} (cs : List (Nat × List Nat)) (k : Nat) (h : vc l G d mX1_pour TX1_pour Q cs k (drp TX1_pour pc) lv st σ) (hpc : hdp (drp TX1_pour pc) = pc := by rfl) : Wp l G d mX1_pour pc lv st σ Q := wp_vc TX1_pour_ok cs k hpc h
def TX1_stopped : List In := [(0, 1, zt_ic 0), (1, 3, zt_istore 4), (3, 4, zt_ic 0), (4, 6, zt_istore 5), (6, 8, zt_iload 5), (8, 9, zt_iload 2), (9, 12, zt_icmp_gt 53), (12, 13, zt_iload 2), (13, 15, zt_iload 5), (15, 18, zt_callS mX8_nodeOf 2), (18, 20, zt_istore 6), (20, 22, zt_iload 4), (22, 23, zt_aload 1), (23, 26, zt_getR 15 2), (26, 28, zt_iload 6), (28, 29, zt_iaload), (29, 30, zt_iload 3), (30, 33, zt_icmp_ne 43), (33, 34, zt_aload 0), (34, 37, zt_getR 10 0), (37, 39, zt_iload 6), (39, 40, zt_iaload), (40, 43, zt_goto 44), (43, 44, zt_ic 0), (44, 45, zt_iadd), (45, 47, zt_istore 4), (47, 50, zt_iinc 5 1), (50, 53, zt_goto 6), (53, 55, zt_iload 4), (55, 56, zt_iret)]
theorem TX1_stopped_ok : ∀ i ∈ TX1_stopped, Ent mX1_stopped i := by
  refine List.forall_mem_cons.mpr ⟨ze_iconst (n := 0) (by decide +kernel) (by decide), ?_⟩
  refine List.forall_mem_cons.mpr ⟨ze_istore (by decide +kernel) (by decide), ?_⟩
  refine List.forall_mem_cons.mpr ⟨ze_iconst (n := 0) (by decide +kernel) (by decide), ?_⟩
  refine List.forall_mem_cons.mpr ⟨ze_istore (by decide +kernel) (by decide), ?_⟩
  refine List.forall_mem_cons.mpr ⟨ze_iload (by decide +kernel), ?_⟩
  refine List.forall_mem_cons.mpr ⟨ze_iload_n (k := 2) (by decide +kernel) rfl, ?_⟩
  refine List.forall_mem_cons.mpr ⟨ze_icmp_gt (off := 44) (by decide +kernel) (by decide), ?_⟩
  refine List.forall_mem_cons.mpr ⟨ze_iload_n (k := 2) (by decide +kernel) rfl, ?_⟩
  refine List.forall_mem_cons.mpr ⟨ze_iload (by decide +kernel), ?_⟩
  refine List.forall_mem_cons.mpr ⟨ze_callS (idx := 26) (by decide +kernel) ml_X1_26 ms_X8_nodeOf, ?_⟩
  refine List.forall_mem_cons.mpr ⟨ze_istore (by decide +kernel) (by decide), ?_⟩
  refine List.forall_mem_cons.mpr ⟨ze_iload (by decide +kernel), ?_⟩
  refine List.forall_mem_cons.mpr ⟨ze_aload_n (k := 1) (by decide +kernel) rfl, ?_⟩
  refine List.forall_mem_cons.mpr ⟨ze_getR (by decide +kernel) fl_X1_33 rfl, ?_⟩
  refine List.forall_mem_cons.mpr ⟨ze_iload (by decide +kernel), ?_⟩
  refine List.forall_mem_cons.mpr ⟨ze_iaload (by decide +kernel), ?_⟩
  refine List.forall_mem_cons.mpr ⟨ze_iload_n (k := 3) (by decide +kernel) rfl, ?_⟩
  refine List.forall_mem_cons.mpr ⟨ze_icmp_ne (off := 13) (by decide +kernel) (by decide), ?_⟩
  refine List.forall_mem_cons.mpr ⟨ze_aload_n (k := 0) (by decide +kernel) rfl, ?_⟩
  refine List.forall_mem_cons.mpr ⟨ze_getR (by decide +kernel) fl_X1_9 rfl, ?_⟩
  refine List.forall_mem_cons.mpr ⟨ze_iload (by decide +kernel), ?_⟩
  refine List.forall_mem_cons.mpr ⟨ze_iaload (by decide +kernel), ?_⟩
  refine List.forall_mem_cons.mpr ⟨ze_goto (off := 4) (by decide +kernel) (by decide), ?_⟩
  refine List.forall_mem_cons.mpr ⟨ze_iconst (n := 0) (by decide +kernel) (by decide), ?_⟩
  refine List.forall_mem_cons.mpr ⟨ze_iadd (by decide +kernel), ?_⟩
  refine List.forall_mem_cons.mpr ⟨ze_istore (by decide +kernel) (by decide), ?_⟩
  refine List.forall_mem_cons.mpr ⟨ze_iinc (n := 1) (by decide +kernel) (by decide) (by decide), ?_⟩
  refine List.forall_mem_cons.mpr ⟨ze_goto (off := -44) (by decide +kernel) (by decide), ?_⟩
  refine List.forall_mem_cons.mpr ⟨ze_iload (by decide +kernel), ?_⟩
  refine List.forall_mem_cons.mpr ⟨ze_iret (by decide +kernel) rfl, ?_⟩
  exact fun _ h => absurd h List.not_mem_nil
theorem vX1_stopped {l : Launch} {G : GT} {d : Nat} {av : List Value} {Q : Po} {σ : Mm} (cs : List (Nat × List Nat)) (k : Nat) (h : vc l G d mX1_stopped TX1_stopped Q cs k TX1_stopped (lv_args 0 av) [] σ) (hlen : (lg_sl av).length ≤ mX1_stopped.2.2.1 := by exact Nat.le_of_ble_eq_true rfl) : MW l G d mX1_stopped av σ Q := mw_vc TX1_stopped_ok mc_X1_stopped rfl hlen cs k rfl h
theorem wX1_stopped {l : Launch} {G : GT} {d : Nat} {Q : Po} {pc : Nat} {lv : Lv} {st : List Value} {σ : Mm} (cs : List (Nat × List Nat)) (k : Nat) (h : vc l G d mX1_stopped TX1_stopped Q cs k (drp TX1_stopped pc) lv st σ) (hpc : hdp (drp TX1_stopped pc) = pc := by rfl) : Wp l G d mX1_stopped pc lv st σ Q := wp_vc TX1_stopped_ok cs k hpc h
def TX1_atTheEnd : List In := [(0, 1, zt_aload 0), (1, 4, zt_getR 10 1), (4, 5, zt_ic 1), (5, 6, zt_iaload), (6, 7, zt_istore 1), (7, 8, zt_ic 0), (8, 9, zt_istore 2), (9, 10, zt_ic 0), (10, 11, zt_istore 3), (11, 12, zt_iload 3), (12, 13, zt_iload 1), (13, 16, zt_icmp_gt 35), (16, 17, zt_iload 2), (17, 18, zt_aload 0), (18, 21, zt_getR 10 0), (21, 22, zt_iload 1), (22, 23, zt_iload 3), (23, 26, zt_callS mX8_nodeOf 2), (26, 27, zt_iaload), (27, 28, zt_iadd), (28, 29, zt_istore 2), (29, 32, zt_iinc 3 1), (32, 35, zt_goto 11), (35, 36, zt_iload 2), (36, 37, zt_iret)]
theorem TX1_atTheEnd_ok : ∀ i ∈ TX1_atTheEnd, Ent mX1_atTheEnd i := by
  refine List.forall_mem_cons.mpr ⟨ze_aload_n (k := 0) (by decide +kernel) rfl, ?_⟩
  refine List.forall_mem_cons.mpr ⟨ze_getR (by decide +kernel) fl_X1_15 rfl, ?_⟩
  refine List.forall_mem_cons.mpr ⟨ze_iconst (n := 1) (by decide +kernel) (by decide), ?_⟩
  refine List.forall_mem_cons.mpr ⟨ze_iaload (by decide +kernel), ?_⟩
  refine List.forall_mem_cons.mpr ⟨ze_istore_n (k := 1) (by decide +kernel) rfl (by decide), ?_⟩
  refine List.forall_mem_cons.mpr ⟨ze_iconst (n := 0) (by decide +kernel) (by decide), ?_⟩
  refine List.forall_mem_cons.mpr ⟨ze_istore_n (k := 2) (by decide +kernel) rfl (by decide), ?_⟩
  refine List.forall_mem_cons.mpr ⟨ze_iconst (n := 0) (by decide +kernel) (by decide), ?_⟩
  refine List.forall_mem_cons.mpr ⟨ze_istore_n (k := 3) (by decide +kernel) rfl (by decide), ?_⟩
  refine List.forall_mem_cons.mpr ⟨ze_iload_n (k := 3) (by decide +kernel) rfl, ?_⟩
  refine List.forall_mem_cons.mpr ⟨ze_iload_n (k := 1) (by decide +kernel) rfl, ?_⟩
  refine List.forall_mem_cons.mpr ⟨ze_icmp_gt (off := 22) (by decide +kernel) (by decide), ?_⟩
  refine List.forall_mem_cons.mpr ⟨ze_iload_n (k := 2) (by decide +kernel) rfl, ?_⟩
  refine List.forall_mem_cons.mpr ⟨ze_aload_n (k := 0) (by decide +kernel) rfl, ?_⟩
  refine List.forall_mem_cons.mpr ⟨ze_getR (by decide +kernel) fl_X1_9 rfl, ?_⟩
  refine List.forall_mem_cons.mpr ⟨ze_iload_n (k := 1) (by decide +kernel) rfl, ?_⟩
  refine List.forall_mem_cons.mpr ⟨ze_iload_n (k := 3) (by decide +kernel) rfl, ?_⟩
  refine List.forall_mem_cons.mpr ⟨ze_callS (idx := 26) (by decide +kernel) ml_X1_26 ms_X8_nodeOf, ?_⟩
  refine List.forall_mem_cons.mpr ⟨ze_iaload (by decide +kernel), ?_⟩
  refine List.forall_mem_cons.mpr ⟨ze_iadd (by decide +kernel), ?_⟩
  refine List.forall_mem_cons.mpr ⟨ze_istore_n (k := 2) (by decide +kernel) rfl (by decide), ?_⟩
  refine List.forall_mem_cons.mpr ⟨ze_iinc (n := 1) (by decide +kernel) (by decide) (by decide), ?_⟩
  refine List.forall_mem_cons.mpr ⟨ze_goto (off := -21) (by decide +kernel) (by decide), ?_⟩
  refine List.forall_mem_cons.mpr ⟨ze_iload_n (k := 2) (by decide +kernel) rfl, ?_⟩
  refine List.forall_mem_cons.mpr ⟨ze_iret (by decide +kernel) rfl, ?_⟩
  exact fun _ h => absurd h List.not_mem_nil
theorem vX1_atTheEnd {l : Launch} {G : GT} {d : Nat} {av : List Value} {Q : Po} {σ : Mm} (cs : List (Nat × List Nat)) (k : Nat) (h : vc l G d mX1_atTheEnd TX1_atTheEnd Q cs k TX1_atTheEnd (lv_args 0 av) [] σ) (hlen : (lg_sl av).length ≤ mX1_atTheEnd.2.2.1 := by exact Nat.le_of_ble_eq_true rfl) : MW l G d mX1_atTheEnd av σ Q := mw_vc TX1_atTheEnd_ok mc_X1_atTheEnd rfl hlen cs k rfl h
theorem wX1_atTheEnd {l : Launch} {G : GT} {d : Nat} {Q : Po} {pc : Nat} {lv : Lv} {st : List Value} {σ : Mm} (cs : List (Nat × List Nat)) (k : Nat) (h : vc l G d mX1_atTheEnd TX1_atTheEnd Q cs k (drp TX1_atTheEnd pc) lv st σ) (hpc : hdp (drp TX1_atTheEnd pc) = pc := by rfl) : Wp l G d mX1_atTheEnd pc lv st σ Q := wp_vc TX1_atTheEnd_ok cs k hpc h
def TX2_clear : List In := [(0, 1, zt_aload 0), (1, 2, zt_ic 0), (2, 5, zt_putI 11 0), (5, 6, zt_aload 0), (6, 7, zt_ic 0), (7, 10, zt_putI 11 5), (10, 11, zt_aload 0), (11, 12, zt_ic 0), (12, 15, zt_putI 11 6), (15, 16, zt_aload 0), (16, 17, zt_ic 0), (17, 20, zt_putZ 11 8), (20, 21, zt_vret)]
theorem TX2_clear_ok : ∀ i ∈ TX2_clear, Ent mX2_clear i := by
  refine List.forall_mem_cons.mpr ⟨ze_aload_n (k := 0) (by decide +kernel) rfl, ?_⟩
  refine List.forall_mem_cons.mpr ⟨ze_iconst (n := 0) (by decide +kernel) (by decide), ?_⟩
  refine List.forall_mem_cons.mpr ⟨ze_putI (by decide +kernel) fl_X2_26 ⟨_, _, _, rfl, rfl, by decide +kernel⟩ rfl, ?_⟩
  refine List.forall_mem_cons.mpr ⟨ze_aload_n (k := 0) (by decide +kernel) rfl, ?_⟩
  refine List.forall_mem_cons.mpr ⟨ze_iconst (n := 0) (by decide +kernel) (by decide), ?_⟩
  refine List.forall_mem_cons.mpr ⟨ze_putI (by decide +kernel) fl_X2_30 ⟨_, _, _, rfl, rfl, by decide +kernel⟩ rfl, ?_⟩
  refine List.forall_mem_cons.mpr ⟨ze_aload_n (k := 0) (by decide +kernel) rfl, ?_⟩
  refine List.forall_mem_cons.mpr ⟨ze_iconst (n := 0) (by decide +kernel) (by decide), ?_⟩
  refine List.forall_mem_cons.mpr ⟨ze_putI (by decide +kernel) fl_X2_33 ⟨_, _, _, rfl, rfl, by decide +kernel⟩ rfl, ?_⟩
  refine List.forall_mem_cons.mpr ⟨ze_aload_n (k := 0) (by decide +kernel) rfl, ?_⟩
  refine List.forall_mem_cons.mpr ⟨ze_iconst (n := 0) (by decide +kernel) (by decide), ?_⟩
  refine List.forall_mem_cons.mpr ⟨ze_putZ (by decide +kernel) fl_X2_36 ⟨_, _, _, rfl, rfl, by decide +kernel⟩ rfl, ?_⟩
  refine List.forall_mem_cons.mpr ⟨ze_vret (by decide +kernel) rfl, ?_⟩
  exact fun _ h => absurd h List.not_mem_nil
theorem vX2_clear {l : Launch} {G : GT} {d : Nat} {av : List Value} {Q : Po} {σ : Mm} (cs : List (Nat × List Nat)) (k : Nat) (h : vc l G d mX2_clear TX2_clear Q cs k TX2_clear (lv_args 0 av) [] σ) (hlen : (lg_sl av).length ≤ mX2_clear.2.2.1 := by exact Nat.le_of_ble_eq_true rfl) : MW l G d mX2_clear av σ Q := mw_vc TX2_clear_ok mc_X2_clear rfl hlen cs k rfl h
theorem wX2_clear {l : Launch} {G : GT} {d : Nat} {Q : Po} {pc : Nat} {lv : Lv} {st : List Value} {σ : Mm} (cs : List (Nat × List Nat)) (k : Nat) (h : vc l G d mX2_clear TX2_clear Q cs k (drp TX2_clear pc) lv st σ) (hpc : hdp (drp TX2_clear pc) = pc := by rfl) : Wp l G d mX2_clear pc lv st σ Q := wp_vc TX2_clear_ok cs k hpc h
def TX2_save : List In := [(0, 1, zt_aload 1), (1, 2, zt_ic 0), (2, 3, zt_aload 0), (3, 6, zt_getR 11 1), (6, 7, zt_aload 0), (7, 10, zt_getI 11 5), (10, 12, zt_ic 115), (12, 13, zt_imul), (13, 15, zt_ic 115), (15, 18, zt_copyI), (18, 19, zt_vret)]
theorem TX2_save_ok : ∀ i ∈ TX2_save, Ent mX2_save i := by
  refine List.forall_mem_cons.mpr ⟨ze_aload_n (k := 1) (by decide +kernel) rfl, ?_⟩
  refine List.forall_mem_cons.mpr ⟨ze_iconst (n := 0) (by decide +kernel) (by decide), ?_⟩
  refine List.forall_mem_cons.mpr ⟨ze_aload_n (k := 0) (by decide +kernel) rfl, ?_⟩
  refine List.forall_mem_cons.mpr ⟨ze_getR (by decide +kernel) fl_X2_13 rfl, ?_⟩
  refine List.forall_mem_cons.mpr ⟨ze_aload_n (k := 0) (by decide +kernel) rfl, ?_⟩
  refine List.forall_mem_cons.mpr ⟨ze_getI (by decide +kernel) fl_X2_30 rfl, ?_⟩
  refine List.forall_mem_cons.mpr ⟨ze_bipush (n := 115) (by decide +kernel) (by decide), ?_⟩
  refine List.forall_mem_cons.mpr ⟨ze_imul (by decide +kernel), ?_⟩
  refine List.forall_mem_cons.mpr ⟨ze_bipush (n := 115) (by decide +kernel) (by decide), ?_⟩
  refine List.forall_mem_cons.mpr ⟨ze_copyI (idx := 40) (by decide +kernel) ml_X2_40 jcp.1 jcp.2.1 jcp.2.2, ?_⟩
  refine List.forall_mem_cons.mpr ⟨ze_vret (by decide +kernel) rfl, ?_⟩
  exact fun _ h => absurd h List.not_mem_nil
theorem vX2_save {l : Launch} {G : GT} {d : Nat} {av : List Value} {Q : Po} {σ : Mm} (cs : List (Nat × List Nat)) (k : Nat) (h : vc l G d mX2_save TX2_save Q cs k TX2_save (lv_args 0 av) [] σ) (hlen : (lg_sl av).length ≤ mX2_save.2.2.1 := by exact Nat.le_of_ble_eq_true rfl) : MW l G d mX2_save av σ Q := mw_vc TX2_save_ok mc_X2_save rfl hlen cs k rfl h
theorem wX2_save {l : Launch} {G : GT} {d : Nat} {Q : Po} {pc : Nat} {lv : Lv} {st : List Value} {σ : Mm} (cs : List (Nat × List Nat)) (k : Nat) (h : vc l G d mX2_save TX2_save Q cs k (drp TX2_save pc) lv st σ) (hpc : hdp (drp TX2_save pc) = pc := by rfl) : Wp l G d mX2_save pc lv st σ Q := wp_vc TX2_save_ok cs k hpc h
def TX2_enter : List In := [(0, 1, zt_aload 0), (1, 2, zt_aload 0), (2, 5, zt_getI 11 5), (5, 6, zt_ic 1), (6, 7, zt_iadd), (7, 9, zt_ic 41), (9, 10, zt_irem), (10, 13, zt_putI 11 5), (13, 14, zt_aload 0), (14, 16, zt_ic 40), (16, 17, zt_aload 0), (17, 20, zt_getI 11 0), (20, 21, zt_ic 1), (21, 22, zt_iadd), (22, 25, zt_min), (25, 28, zt_putI 11 0), (28, 29, zt_aload 0), (29, 32, zt_getI 11 6), (32, 34, zt_ic 100), (34, 35, zt_irem), (35, 36, zt_ic 3), (36, 37, zt_imul), (37, 39, zt_istore 4), (39, 40, zt_aload 0), (40, 43, zt_getR 11 2), (43, 45, zt_iload 4), (45, 46, zt_iload 1), (46, 47, zt_iastore), (47, 48, zt_aload 0), (48, 51, zt_getR 11 2), (51, 53, zt_iload 4), (53, 54, zt_ic 1), (54, 55, zt_iadd), (55, 56, zt_iload 2), (56, 57, zt_iastore), (57, 58, zt_aload 0), (58, 61, zt_getR 11 2), (61, 63, zt_iload 4), (63, 64, zt_ic 2), (64, 65, zt_iadd), (65, 66, zt_iload 3), (66, 67, zt_iastore), (67, 68, zt_aload 0), (68, 69, zt_dup), (69, 72, zt_getI 11 6), (72, 73, zt_ic 1), (73, 74, zt_iadd), (74, 77, zt_putI 11 6), (77, 78, zt_vret)]
theorem TX2_enter_ok : ∀ i ∈ TX2_enter, Ent mX2_enter i := by
  refine List.forall_mem_cons.mpr ⟨ze_aload_n (k := 0) (by decide +kernel) rfl, ?_⟩
  refine List.forall_mem_cons.mpr ⟨ze_aload_n (k := 0) (by decide +kernel) rfl, ?_⟩
  refine List.forall_mem_cons.mpr ⟨ze_getI (by decide +kernel) fl_X2_30 rfl, ?_⟩
  refine List.forall_mem_cons.mpr ⟨ze_iconst (n := 1) (by decide +kernel) (by decide), ?_⟩
  refine List.forall_mem_cons.mpr ⟨ze_iadd (by decide +kernel), ?_⟩
  refine List.forall_mem_cons.mpr ⟨ze_bipush (n := 41) (by decide +kernel) (by decide), ?_⟩
  refine List.forall_mem_cons.mpr ⟨ze_irem (by decide +kernel), ?_⟩
  refine List.forall_mem_cons.mpr ⟨ze_putI (by decide +kernel) fl_X2_30 ⟨_, _, _, rfl, rfl, by decide +kernel⟩ rfl, ?_⟩
  refine List.forall_mem_cons.mpr ⟨ze_aload_n (k := 0) (by decide +kernel) rfl, ?_⟩
  refine List.forall_mem_cons.mpr ⟨ze_bipush (n := 40) (by decide +kernel) (by decide), ?_⟩
  refine List.forall_mem_cons.mpr ⟨ze_aload_n (k := 0) (by decide +kernel) rfl, ?_⟩
  refine List.forall_mem_cons.mpr ⟨ze_getI (by decide +kernel) fl_X2_26 rfl, ?_⟩
  refine List.forall_mem_cons.mpr ⟨ze_iconst (n := 1) (by decide +kernel) (by decide), ?_⟩
  refine List.forall_mem_cons.mpr ⟨ze_iadd (by decide +kernel), ?_⟩
  refine List.forall_mem_cons.mpr ⟨ze_min (idx := 46) (by decide +kernel) ml_X2_46 jmn.1 jmn.2.1 jmn.2.2, ?_⟩
  refine List.forall_mem_cons.mpr ⟨ze_putI (by decide +kernel) fl_X2_26 ⟨_, _, _, rfl, rfl, by decide +kernel⟩ rfl, ?_⟩
  refine List.forall_mem_cons.mpr ⟨ze_aload_n (k := 0) (by decide +kernel) rfl, ?_⟩
  refine List.forall_mem_cons.mpr ⟨ze_getI (by decide +kernel) fl_X2_33 rfl, ?_⟩
  refine List.forall_mem_cons.mpr ⟨ze_bipush (n := 100) (by decide +kernel) (by decide), ?_⟩
  refine List.forall_mem_cons.mpr ⟨ze_irem (by decide +kernel), ?_⟩
  refine List.forall_mem_cons.mpr ⟨ze_iconst (n := 3) (by decide +kernel) (by decide), ?_⟩
  refine List.forall_mem_cons.mpr ⟨ze_imul (by decide +kernel), ?_⟩
  refine List.forall_mem_cons.mpr ⟨ze_istore (by decide +kernel) (by decide), ?_⟩
  refine List.forall_mem_cons.mpr ⟨ze_aload_n (k := 0) (by decide +kernel) rfl, ?_⟩
  refine List.forall_mem_cons.mpr ⟨ze_getR (by decide +kernel) fl_X2_17 rfl, ?_⟩
  refine List.forall_mem_cons.mpr ⟨ze_iload (by decide +kernel), ?_⟩
  refine List.forall_mem_cons.mpr ⟨ze_iload_n (k := 1) (by decide +kernel) rfl, ?_⟩
  refine List.forall_mem_cons.mpr ⟨ze_iastore (by decide +kernel), ?_⟩
  refine List.forall_mem_cons.mpr ⟨ze_aload_n (k := 0) (by decide +kernel) rfl, ?_⟩
  refine List.forall_mem_cons.mpr ⟨ze_getR (by decide +kernel) fl_X2_17 rfl, ?_⟩
  refine List.forall_mem_cons.mpr ⟨ze_iload (by decide +kernel), ?_⟩
  refine List.forall_mem_cons.mpr ⟨ze_iconst (n := 1) (by decide +kernel) (by decide), ?_⟩
  refine List.forall_mem_cons.mpr ⟨ze_iadd (by decide +kernel), ?_⟩
  refine List.forall_mem_cons.mpr ⟨ze_iload_n (k := 2) (by decide +kernel) rfl, ?_⟩
  refine List.forall_mem_cons.mpr ⟨ze_iastore (by decide +kernel), ?_⟩
  refine List.forall_mem_cons.mpr ⟨ze_aload_n (k := 0) (by decide +kernel) rfl, ?_⟩
  refine List.forall_mem_cons.mpr ⟨ze_getR (by decide +kernel) fl_X2_17 rfl, ?_⟩
  refine List.forall_mem_cons.mpr ⟨ze_iload (by decide +kernel), ?_⟩
  refine List.forall_mem_cons.mpr ⟨ze_iconst (n := 2) (by decide +kernel) (by decide), ?_⟩
  refine List.forall_mem_cons.mpr ⟨ze_iadd (by decide +kernel), ?_⟩
  refine List.forall_mem_cons.mpr ⟨ze_iload_n (k := 3) (by decide +kernel) rfl, ?_⟩
  refine List.forall_mem_cons.mpr ⟨ze_iastore (by decide +kernel), ?_⟩
  refine List.forall_mem_cons.mpr ⟨ze_aload_n (k := 0) (by decide +kernel) rfl, ?_⟩
  refine List.forall_mem_cons.mpr ⟨ze_dup (by decide +kernel), ?_⟩
  refine List.forall_mem_cons.mpr ⟨ze_getI (by decide +kernel) fl_X2_33 rfl, ?_⟩
  refine List.forall_mem_cons.mpr ⟨ze_iconst (n := 1) (by decide +kernel) (by decide), ?_⟩
  refine List.forall_mem_cons.mpr ⟨ze_iadd (by decide +kernel), ?_⟩
  refine List.forall_mem_cons.mpr ⟨ze_putI (by decide +kernel) fl_X2_33 ⟨_, _, _, rfl, rfl, by decide +kernel⟩ rfl, ?_⟩
  refine List.forall_mem_cons.mpr ⟨ze_vret (by decide +kernel) rfl, ?_⟩
  exact fun _ h => absurd h List.not_mem_nil
theorem vX2_enter {l : Launch} {G : GT} {d : Nat} {av : List Value} {Q : Po} {σ : Mm} (cs : List (Nat × List Nat)) (k : Nat) (h : vc l G d mX2_enter TX2_enter Q cs k TX2_enter (lv_args 0 av) [] σ) (hlen : (lg_sl av).length ≤ mX2_enter.2.2.1 := by exact Nat.le_of_ble_eq_true rfl) : MW l G d mX2_enter av σ Q := mw_vc TX2_enter_ok mc_X2_enter rfl hlen cs k rfl h
theorem wX2_enter {l : Launch} {G : GT} {d : Nat} {Q : Po} {pc : Nat} {lv : Lv} {st : List Value} {σ : Mm} (cs : List (Nat × List Nat)) (k : Nat) (h : vc l G d mX2_enter TX2_enter Q cs k (drp TX2_enter pc) lv st σ) (hpc : hdp (drp TX2_enter pc) = pc := by rfl) : Wp l G d mX2_enter pc lv st σ Q := wp_vc TX2_enter_ok cs k hpc h
def TX2_takeBack : List In := [(0, 1, zt_aload 0), (1, 4, zt_getI 11 0), (4, 7, zt_if_eq 14), (7, 8, zt_aload 0), (8, 11, zt_getI 11 6), (11, 14, zt_if_ne 16), (14, 15, zt_ic 0), (15, 16, zt_zret), (16, 17, zt_aload 0), (17, 18, zt_aload 0), (18, 21, zt_getI 11 5), (21, 23, zt_ic 41), (23, 24, zt_iadd), (24, 25, zt_ic 1), (25, 26, zt_isub), (26, 28, zt_ic 41), (28, 29, zt_irem), (29, 32, zt_putI 11 5), (32, 33, zt_aload 0), (33, 34, zt_dup), (34, 37, zt_getI 11 0), (37, 38, zt_ic 1), (38, 39, zt_isub), (39, 42, zt_putI 11 0), (42, 43, zt_aload 0), (43, 44, zt_dup), (44, 47, zt_getI 11 6), (47, 48, zt_ic 1), (48, 49, zt_isub), (49, 52, zt_putI 11 6), (52, 53, zt_aload 0), (53, 56, zt_getR 11 1), (56, 57, zt_aload 0), (57, 60, zt_getI 11 5), (60, 62, zt_ic 115), (62, 63, zt_imul), (63, 64, zt_aload 1), (64, 65, zt_ic 0), (65, 67, zt_ic 115), (67, 70, zt_copyI), (70, 71, zt_ic 1), (71, 72, zt_zret)]
theorem TX2_takeBack_ok : ∀ i ∈ TX2_takeBack, Ent mX2_takeBack i := by
  refine List.forall_mem_cons.mpr ⟨ze_aload_n (k := 0) (by decide +kernel) rfl, ?_⟩
  refine List.forall_mem_cons.mpr ⟨ze_getI (by decide +kernel) fl_X2_26 rfl, ?_⟩
  refine List.forall_mem_cons.mpr ⟨ze_if_eq (off := 10) (by decide +kernel) (by decide), ?_⟩
  refine List.forall_mem_cons.mpr ⟨ze_aload_n (k := 0) (by decide +kernel) rfl, ?_⟩
  refine List.forall_mem_cons.mpr ⟨ze_getI (by decide +kernel) fl_X2_33 rfl, ?_⟩
  refine List.forall_mem_cons.mpr ⟨ze_if_ne (off := 5) (by decide +kernel) (by decide), ?_⟩
  refine List.forall_mem_cons.mpr ⟨ze_iconst (n := 0) (by decide +kernel) (by decide), ?_⟩
  refine List.forall_mem_cons.mpr ⟨ze_zret (by decide +kernel) rfl, ?_⟩
  refine List.forall_mem_cons.mpr ⟨ze_aload_n (k := 0) (by decide +kernel) rfl, ?_⟩
  refine List.forall_mem_cons.mpr ⟨ze_aload_n (k := 0) (by decide +kernel) rfl, ?_⟩
  refine List.forall_mem_cons.mpr ⟨ze_getI (by decide +kernel) fl_X2_30 rfl, ?_⟩
  refine List.forall_mem_cons.mpr ⟨ze_bipush (n := 41) (by decide +kernel) (by decide), ?_⟩
  refine List.forall_mem_cons.mpr ⟨ze_iadd (by decide +kernel), ?_⟩
  refine List.forall_mem_cons.mpr ⟨ze_iconst (n := 1) (by decide +kernel) (by decide), ?_⟩
  refine List.forall_mem_cons.mpr ⟨ze_isub (by decide +kernel), ?_⟩
  refine List.forall_mem_cons.mpr ⟨ze_bipush (n := 41) (by decide +kernel) (by decide), ?_⟩
  refine List.forall_mem_cons.mpr ⟨ze_irem (by decide +kernel), ?_⟩
  refine List.forall_mem_cons.mpr ⟨ze_putI (by decide +kernel) fl_X2_30 ⟨_, _, _, rfl, rfl, by decide +kernel⟩ rfl, ?_⟩
  refine List.forall_mem_cons.mpr ⟨ze_aload_n (k := 0) (by decide +kernel) rfl, ?_⟩
  refine List.forall_mem_cons.mpr ⟨ze_dup (by decide +kernel), ?_⟩
  refine List.forall_mem_cons.mpr ⟨ze_getI (by decide +kernel) fl_X2_26 rfl, ?_⟩
  refine List.forall_mem_cons.mpr ⟨ze_iconst (n := 1) (by decide +kernel) (by decide), ?_⟩
  refine List.forall_mem_cons.mpr ⟨ze_isub (by decide +kernel), ?_⟩
  refine List.forall_mem_cons.mpr ⟨ze_putI (by decide +kernel) fl_X2_26 ⟨_, _, _, rfl, rfl, by decide +kernel⟩ rfl, ?_⟩
  refine List.forall_mem_cons.mpr ⟨ze_aload_n (k := 0) (by decide +kernel) rfl, ?_⟩
  refine List.forall_mem_cons.mpr ⟨ze_dup (by decide +kernel), ?_⟩
  refine List.forall_mem_cons.mpr ⟨ze_getI (by decide +kernel) fl_X2_33 rfl, ?_⟩
  refine List.forall_mem_cons.mpr ⟨ze_iconst (n := 1) (by decide +kernel) (by decide), ?_⟩
  refine List.forall_mem_cons.mpr ⟨ze_isub (by decide +kernel), ?_⟩
  refine List.forall_mem_cons.mpr ⟨ze_putI (by decide +kernel) fl_X2_33 ⟨_, _, _, rfl, rfl, by decide +kernel⟩ rfl, ?_⟩
  refine List.forall_mem_cons.mpr ⟨ze_aload_n (k := 0) (by decide +kernel) rfl, ?_⟩
  refine List.forall_mem_cons.mpr ⟨ze_getR (by decide +kernel) fl_X2_13 rfl, ?_⟩
  refine List.forall_mem_cons.mpr ⟨ze_aload_n (k := 0) (by decide +kernel) rfl, ?_⟩
  refine List.forall_mem_cons.mpr ⟨ze_getI (by decide +kernel) fl_X2_30 rfl, ?_⟩
  refine List.forall_mem_cons.mpr ⟨ze_bipush (n := 115) (by decide +kernel) (by decide), ?_⟩
  refine List.forall_mem_cons.mpr ⟨ze_imul (by decide +kernel), ?_⟩
  refine List.forall_mem_cons.mpr ⟨ze_aload_n (k := 1) (by decide +kernel) rfl, ?_⟩
  refine List.forall_mem_cons.mpr ⟨ze_iconst (n := 0) (by decide +kernel) (by decide), ?_⟩
  refine List.forall_mem_cons.mpr ⟨ze_bipush (n := 115) (by decide +kernel) (by decide), ?_⟩
  refine List.forall_mem_cons.mpr ⟨ze_copyI (idx := 40) (by decide +kernel) ml_X2_40 jcp.1 jcp.2.1 jcp.2.2, ?_⟩
  refine List.forall_mem_cons.mpr ⟨ze_iconst (n := 1) (by decide +kernel) (by decide), ?_⟩
  refine List.forall_mem_cons.mpr ⟨ze_zret (by decide +kernel) rfl, ?_⟩
  exact fun _ h => absurd h List.not_mem_nil
theorem vX2_takeBack {l : Launch} {G : GT} {d : Nat} {av : List Value} {Q : Po} {σ : Mm} (cs : List (Nat × List Nat)) (k : Nat) (h : vc l G d mX2_takeBack TX2_takeBack Q cs k TX2_takeBack (lv_args 0 av) [] σ) (hlen : (lg_sl av).length ≤ mX2_takeBack.2.2.1 := by exact Nat.le_of_ble_eq_true rfl) : MW l G d mX2_takeBack av σ Q := mw_vc TX2_takeBack_ok mc_X2_takeBack rfl hlen cs k rfl h
theorem wX2_takeBack {l : Launch} {G : GT} {d : Nat} {Q : Po} {pc : Nat} {lv : Lv} {st : List Value} {σ : Mm} (cs : List (Nat × List Nat)) (k : Nat) (h : vc l G d mX2_takeBack TX2_takeBack Q cs k (drp TX2_takeBack pc) lv st σ) (hpc : hdp (drp TX2_takeBack pc) = pc := by rfl) : Wp l G d mX2_takeBack pc lv st σ Q := wp_vc TX2_takeBack_ok cs k hpc h
def TX2_shown : List In := [(0, 2, zt_ic 60), (2, 3, zt_aload 0), (3, 6, zt_getI 11 6), (6, 9, zt_min), (9, 10, zt_iret)]
theorem TX2_shown_ok : ∀ i ∈ TX2_shown, Ent mX2_shown i := by
  refine List.forall_mem_cons.mpr ⟨ze_bipush (n := 60) (by decide +kernel) (by decide), ?_⟩
  refine List.forall_mem_cons.mpr ⟨ze_aload_n (k := 0) (by decide +kernel) rfl, ?_⟩
  refine List.forall_mem_cons.mpr ⟨ze_getI (by decide +kernel) fl_X2_33 rfl, ?_⟩
  refine List.forall_mem_cons.mpr ⟨ze_min (idx := 46) (by decide +kernel) ml_X2_46 jmn.1 jmn.2.1 jmn.2.2, ?_⟩
  refine List.forall_mem_cons.mpr ⟨ze_iret (by decide +kernel) rfl, ?_⟩
  exact fun _ h => absurd h List.not_mem_nil
theorem vX2_shown {l : Launch} {G : GT} {d : Nat} {av : List Value} {Q : Po} {σ : Mm} (cs : List (Nat × List Nat)) (k : Nat) (h : vc l G d mX2_shown TX2_shown Q cs k TX2_shown (lv_args 0 av) [] σ) (hlen : (lg_sl av).length ≤ mX2_shown.2.2.1 := by exact Nat.le_of_ble_eq_true rfl) : MW l G d mX2_shown av σ Q := mw_vc TX2_shown_ok mc_X2_shown rfl hlen cs k rfl h
theorem wX2_shown {l : Launch} {G : GT} {d : Nat} {Q : Po} {pc : Nat} {lv : Lv} {st : List Value} {σ : Mm} (cs : List (Nat × List Nat)) (k : Nat) (h : vc l G d mX2_shown TX2_shown Q cs k (drp TX2_shown pc) lv st σ) (hpc : hdp (drp TX2_shown pc) = pc := by rfl) : Wp l G d mX2_shown pc lv st σ Q := wp_vc TX2_shown_ok cs k hpc h
def TX2_entry : List In := [(0, 1, zt_iload 1), (1, 4, zt_if_lt 21), (4, 5, zt_iload 1), (5, 6, zt_aload 0), (6, 9, zt_callV mX2_shown 0 11), (9, 12, zt_icmp_ge 21), (12, 13, zt_iload 2), (13, 16, zt_if_lt 21), (16, 17, zt_iload 2), (17, 18, zt_ic 3), (18, 21, zt_icmp_lt 24), (21, 23, zt_ic (-1000000 : Int32)), (23, 24, zt_iret), (24, 25, zt_aload 0), (25, 28, zt_getR 11 2), (28, 29, zt_aload 0), (29, 32, zt_getI 11 6), (32, 33, zt_ic 1), (33, 34, zt_isub), (34, 35, zt_iload 1), (35, 36, zt_isub), (36, 38, zt_ic 100), (38, 39, zt_irem), (39, 40, zt_ic 3), (40, 41, zt_imul), (41, 42, zt_iload 2), (42, 43, zt_iadd), (43, 44, zt_iaload), (44, 45, zt_iret)]
theorem TX2_entry_ok : ∀ i ∈ TX2_entry, Ent mX2_entry i := by
  refine List.forall_mem_cons.mpr ⟨ze_iload_n (k := 1) (by decide +kernel) rfl, ?_⟩
  refine List.forall_mem_cons.mpr ⟨ze_if_lt (off := 20) (by decide +kernel) (by decide), ?_⟩
  refine List.forall_mem_cons.mpr ⟨ze_iload_n (k := 1) (by decide +kernel) rfl, ?_⟩
  refine List.forall_mem_cons.mpr ⟨ze_aload_n (k := 0) (by decide +kernel) rfl, ?_⟩
  refine List.forall_mem_cons.mpr ⟨ze_callV (idx := 52) (by decide +kernel) ml_X2_52 mv_X2_shown rfl, ?_⟩
  refine List.forall_mem_cons.mpr ⟨ze_icmp_ge (off := 12) (by decide +kernel) (by decide), ?_⟩
  refine List.forall_mem_cons.mpr ⟨ze_iload_n (k := 2) (by decide +kernel) rfl, ?_⟩
  refine List.forall_mem_cons.mpr ⟨ze_if_lt (off := 8) (by decide +kernel) (by decide), ?_⟩
  refine List.forall_mem_cons.mpr ⟨ze_iload_n (k := 2) (by decide +kernel) rfl, ?_⟩
  refine List.forall_mem_cons.mpr ⟨ze_iconst (n := 3) (by decide +kernel) (by decide), ?_⟩
  refine List.forall_mem_cons.mpr ⟨ze_icmp_lt (off := 6) (by decide +kernel) (by decide), ?_⟩
  refine List.forall_mem_cons.mpr ⟨ze_ldc (i := 56) (by decide +kernel) kc_X2_56, ?_⟩
  refine List.forall_mem_cons.mpr ⟨ze_iret (by decide +kernel) rfl, ?_⟩
  refine List.forall_mem_cons.mpr ⟨ze_aload_n (k := 0) (by decide +kernel) rfl, ?_⟩
  refine List.forall_mem_cons.mpr ⟨ze_getR (by decide +kernel) fl_X2_17 rfl, ?_⟩
  refine List.forall_mem_cons.mpr ⟨ze_aload_n (k := 0) (by decide +kernel) rfl, ?_⟩
  refine List.forall_mem_cons.mpr ⟨ze_getI (by decide +kernel) fl_X2_33 rfl, ?_⟩
  refine List.forall_mem_cons.mpr ⟨ze_iconst (n := 1) (by decide +kernel) (by decide), ?_⟩
  refine List.forall_mem_cons.mpr ⟨ze_isub (by decide +kernel), ?_⟩
  refine List.forall_mem_cons.mpr ⟨ze_iload_n (k := 1) (by decide +kernel) rfl, ?_⟩
  refine List.forall_mem_cons.mpr ⟨ze_isub (by decide +kernel), ?_⟩
  refine List.forall_mem_cons.mpr ⟨ze_bipush (n := 100) (by decide +kernel) (by decide), ?_⟩
  refine List.forall_mem_cons.mpr ⟨ze_irem (by decide +kernel), ?_⟩
  refine List.forall_mem_cons.mpr ⟨ze_iconst (n := 3) (by decide +kernel) (by decide), ?_⟩
  refine List.forall_mem_cons.mpr ⟨ze_imul (by decide +kernel), ?_⟩
  refine List.forall_mem_cons.mpr ⟨ze_iload_n (k := 2) (by decide +kernel) rfl, ?_⟩
  refine List.forall_mem_cons.mpr ⟨ze_iadd (by decide +kernel), ?_⟩
  refine List.forall_mem_cons.mpr ⟨ze_iaload (by decide +kernel), ?_⟩
  refine List.forall_mem_cons.mpr ⟨ze_iret (by decide +kernel) rfl, ?_⟩
  exact fun _ h => absurd h List.not_mem_nil
theorem vX2_entry {l : Launch} {G : GT} {d : Nat} {av : List Value} {Q : Po} {σ : Mm} (cs : List (Nat × List Nat)) (k : Nat) (h : vc l G d mX2_entry TX2_entry Q cs k TX2_entry (lv_args 0 av) [] σ) (hlen : (lg_sl av).length ≤ mX2_entry.2.2.1 := by exact Nat.le_of_ble_eq_true rfl) : MW l G d mX2_entry av σ Q := mw_vc TX2_entry_ok mc_X2_entry rfl hlen cs k rfl h
theorem wX2_entry {l : Launch} {G : GT} {d : Nat} {Q : Po} {pc : Nat} {lv : Lv} {st : List Value} {σ : Mm} (cs : List (Nat × List Nat)) (k : Nat) (h : vc l G d mX2_entry TX2_entry Q cs k (drp TX2_entry pc) lv st σ) (hpc : hdp (drp TX2_entry pc) = pc := by rfl) : Wp l G d mX2_entry pc lv st σ Q := wp_vc TX2_entry_ok cs k hpc h
def TX2_keepImage : List In := [(0, 1, zt_aload 1), (1, 2, zt_ic 0), (2, 3, zt_aload 0), (3, 6, zt_getR 11 3), (6, 7, zt_ic 0), (7, 9, zt_ic 115), (9, 12, zt_copyI), (12, 13, zt_aload 0), (13, 16, zt_getR 11 2), (16, 17, zt_ic 0), (17, 18, zt_aload 0), (18, 21, zt_getR 11 4), (21, 22, zt_ic 0), (22, 25, zt_ic 300), (25, 28, zt_copyI), (28, 29, zt_aload 0), (29, 30, zt_aload 0), (30, 33, zt_getI 11 6), (33, 36, zt_putI 11 7), (36, 37, zt_aload 0), (37, 38, zt_ic 1), (38, 41, zt_putZ 11 8), (41, 42, zt_vret)]
theorem TX2_keepImage_ok : ∀ i ∈ TX2_keepImage, Ent mX2_keepImage i := by
  refine List.forall_mem_cons.mpr ⟨ze_aload_n (k := 1) (by decide +kernel) rfl, ?_⟩
  refine List.forall_mem_cons.mpr ⟨ze_iconst (n := 0) (by decide +kernel) (by decide), ?_⟩
  refine List.forall_mem_cons.mpr ⟨ze_aload_n (k := 0) (by decide +kernel) rfl, ?_⟩
  refine List.forall_mem_cons.mpr ⟨ze_getR (by decide +kernel) fl_X2_20 rfl, ?_⟩
  refine List.forall_mem_cons.mpr ⟨ze_iconst (n := 0) (by decide +kernel) (by decide), ?_⟩
  refine List.forall_mem_cons.mpr ⟨ze_bipush (n := 115) (by decide +kernel) (by decide), ?_⟩
  refine List.forall_mem_cons.mpr ⟨ze_copyI (idx := 40) (by decide +kernel) ml_X2_40 jcp.1 jcp.2.1 jcp.2.2, ?_⟩
  refine List.forall_mem_cons.mpr ⟨ze_aload_n (k := 0) (by decide +kernel) rfl, ?_⟩
  refine List.forall_mem_cons.mpr ⟨ze_getR (by decide +kernel) fl_X2_17 rfl, ?_⟩
  refine List.forall_mem_cons.mpr ⟨ze_iconst (n := 0) (by decide +kernel) (by decide), ?_⟩
  refine List.forall_mem_cons.mpr ⟨ze_aload_n (k := 0) (by decide +kernel) rfl, ?_⟩
  refine List.forall_mem_cons.mpr ⟨ze_getR (by decide +kernel) fl_X2_23 rfl, ?_⟩
  refine List.forall_mem_cons.mpr ⟨ze_iconst (n := 0) (by decide +kernel) (by decide), ?_⟩
  refine List.forall_mem_cons.mpr ⟨ze_sipush (n := 300) (by decide +kernel) (by decide), ?_⟩
  refine List.forall_mem_cons.mpr ⟨ze_copyI (idx := 40) (by decide +kernel) ml_X2_40 jcp.1 jcp.2.1 jcp.2.2, ?_⟩
  refine List.forall_mem_cons.mpr ⟨ze_aload_n (k := 0) (by decide +kernel) rfl, ?_⟩
  refine List.forall_mem_cons.mpr ⟨ze_aload_n (k := 0) (by decide +kernel) rfl, ?_⟩
  refine List.forall_mem_cons.mpr ⟨ze_getI (by decide +kernel) fl_X2_33 rfl, ?_⟩
  refine List.forall_mem_cons.mpr ⟨ze_putI (by decide +kernel) fl_X2_57 ⟨_, _, _, rfl, rfl, by decide +kernel⟩ rfl, ?_⟩
  refine List.forall_mem_cons.mpr ⟨ze_aload_n (k := 0) (by decide +kernel) rfl, ?_⟩
  refine List.forall_mem_cons.mpr ⟨ze_iconst (n := 1) (by decide +kernel) (by decide), ?_⟩
  refine List.forall_mem_cons.mpr ⟨ze_putZ (by decide +kernel) fl_X2_36 ⟨_, _, _, rfl, rfl, by decide +kernel⟩ rfl, ?_⟩
  refine List.forall_mem_cons.mpr ⟨ze_vret (by decide +kernel) rfl, ?_⟩
  exact fun _ h => absurd h List.not_mem_nil
theorem vX2_keepImage {l : Launch} {G : GT} {d : Nat} {av : List Value} {Q : Po} {σ : Mm} (cs : List (Nat × List Nat)) (k : Nat) (h : vc l G d mX2_keepImage TX2_keepImage Q cs k TX2_keepImage (lv_args 0 av) [] σ) (hlen : (lg_sl av).length ≤ mX2_keepImage.2.2.1 := by exact Nat.le_of_ble_eq_true rfl) : MW l G d mX2_keepImage av σ Q := mw_vc TX2_keepImage_ok mc_X2_keepImage rfl hlen cs k rfl h
theorem wX2_keepImage {l : Launch} {G : GT} {d : Nat} {Q : Po} {pc : Nat} {lv : Lv} {st : List Value} {σ : Mm} (cs : List (Nat × List Nat)) (k : Nat) (h : vc l G d mX2_keepImage TX2_keepImage Q cs k (drp TX2_keepImage pc) lv st σ) (hpc : hdp (drp TX2_keepImage pc) = pc := by rfl) : Wp l G d mX2_keepImage pc lv st σ Q := wp_vc TX2_keepImage_ok cs k hpc h
def TX2_bringBack : List In := [(0, 1, zt_aload 0), (1, 4, zt_getI 11 8), (4, 7, zt_if_ne 9), (7, 8, zt_ic 0), (8, 9, zt_zret), (9, 10, zt_aload 0), (10, 13, zt_getR 11 3), (13, 14, zt_ic 0), (14, 15, zt_aload 1), (15, 16, zt_ic 0), (16, 18, zt_ic 115), (18, 21, zt_copyI), (21, 22, zt_aload 0), (22, 25, zt_getR 11 4), (25, 26, zt_ic 0), (26, 27, zt_aload 0), (27, 30, zt_getR 11 2), (30, 31, zt_ic 0), (31, 34, zt_ic 300), (34, 37, zt_copyI), (37, 38, zt_aload 0), (38, 39, zt_aload 0), (39, 42, zt_getI 11 7), (42, 45, zt_putI 11 6), (45, 46, zt_aload 0), (46, 47, zt_ic 0), (47, 50, zt_putI 11 0), (50, 51, zt_ic 1), (51, 52, zt_zret)]
theorem TX2_bringBack_ok : ∀ i ∈ TX2_bringBack, Ent mX2_bringBack i := by
  refine List.forall_mem_cons.mpr ⟨ze_aload_n (k := 0) (by decide +kernel) rfl, ?_⟩
  refine List.forall_mem_cons.mpr ⟨ze_getI (by decide +kernel) fl_X2_36 rfl, ?_⟩
  refine List.forall_mem_cons.mpr ⟨ze_if_ne (off := 5) (by decide +kernel) (by decide), ?_⟩
  refine List.forall_mem_cons.mpr ⟨ze_iconst (n := 0) (by decide +kernel) (by decide), ?_⟩
  refine List.forall_mem_cons.mpr ⟨ze_zret (by decide +kernel) rfl, ?_⟩
  refine List.forall_mem_cons.mpr ⟨ze_aload_n (k := 0) (by decide +kernel) rfl, ?_⟩
  refine List.forall_mem_cons.mpr ⟨ze_getR (by decide +kernel) fl_X2_20 rfl, ?_⟩
  refine List.forall_mem_cons.mpr ⟨ze_iconst (n := 0) (by decide +kernel) (by decide), ?_⟩
  refine List.forall_mem_cons.mpr ⟨ze_aload_n (k := 1) (by decide +kernel) rfl, ?_⟩
  refine List.forall_mem_cons.mpr ⟨ze_iconst (n := 0) (by decide +kernel) (by decide), ?_⟩
  refine List.forall_mem_cons.mpr ⟨ze_bipush (n := 115) (by decide +kernel) (by decide), ?_⟩
  refine List.forall_mem_cons.mpr ⟨ze_copyI (idx := 40) (by decide +kernel) ml_X2_40 jcp.1 jcp.2.1 jcp.2.2, ?_⟩
  refine List.forall_mem_cons.mpr ⟨ze_aload_n (k := 0) (by decide +kernel) rfl, ?_⟩
  refine List.forall_mem_cons.mpr ⟨ze_getR (by decide +kernel) fl_X2_23 rfl, ?_⟩
  refine List.forall_mem_cons.mpr ⟨ze_iconst (n := 0) (by decide +kernel) (by decide), ?_⟩
  refine List.forall_mem_cons.mpr ⟨ze_aload_n (k := 0) (by decide +kernel) rfl, ?_⟩
  refine List.forall_mem_cons.mpr ⟨ze_getR (by decide +kernel) fl_X2_17 rfl, ?_⟩
  refine List.forall_mem_cons.mpr ⟨ze_iconst (n := 0) (by decide +kernel) (by decide), ?_⟩
  refine List.forall_mem_cons.mpr ⟨ze_sipush (n := 300) (by decide +kernel) (by decide), ?_⟩
  refine List.forall_mem_cons.mpr ⟨ze_copyI (idx := 40) (by decide +kernel) ml_X2_40 jcp.1 jcp.2.1 jcp.2.2, ?_⟩
  refine List.forall_mem_cons.mpr ⟨ze_aload_n (k := 0) (by decide +kernel) rfl, ?_⟩
  refine List.forall_mem_cons.mpr ⟨ze_aload_n (k := 0) (by decide +kernel) rfl, ?_⟩
  refine List.forall_mem_cons.mpr ⟨ze_getI (by decide +kernel) fl_X2_57 rfl, ?_⟩
  refine List.forall_mem_cons.mpr ⟨ze_putI (by decide +kernel) fl_X2_33 ⟨_, _, _, rfl, rfl, by decide +kernel⟩ rfl, ?_⟩
  refine List.forall_mem_cons.mpr ⟨ze_aload_n (k := 0) (by decide +kernel) rfl, ?_⟩
  refine List.forall_mem_cons.mpr ⟨ze_iconst (n := 0) (by decide +kernel) (by decide), ?_⟩
  refine List.forall_mem_cons.mpr ⟨ze_putI (by decide +kernel) fl_X2_26 ⟨_, _, _, rfl, rfl, by decide +kernel⟩ rfl, ?_⟩
  refine List.forall_mem_cons.mpr ⟨ze_iconst (n := 1) (by decide +kernel) (by decide), ?_⟩
  refine List.forall_mem_cons.mpr ⟨ze_zret (by decide +kernel) rfl, ?_⟩
  exact fun _ h => absurd h List.not_mem_nil
theorem vX2_bringBack {l : Launch} {G : GT} {d : Nat} {av : List Value} {Q : Po} {σ : Mm} (cs : List (Nat × List Nat)) (k : Nat) (h : vc l G d mX2_bringBack TX2_bringBack Q cs k TX2_bringBack (lv_args 0 av) [] σ) (hlen : (lg_sl av).length ≤ mX2_bringBack.2.2.1 := by exact Nat.le_of_ble_eq_true rfl) : MW l G d mX2_bringBack av σ Q := mw_vc TX2_bringBack_ok mc_X2_bringBack rfl hlen cs k rfl h
theorem wX2_bringBack {l : Launch} {G : GT} {d : Nat} {Q : Po} {pc : Nat} {lv : Lv} {st : List Value} {σ : Mm} (cs : List (Nat × List Nat)) (k : Nat) (h : vc l G d mX2_bringBack TX2_bringBack Q cs k (drp TX2_bringBack pc) lv st σ) (hpc : hdp (drp TX2_bringBack pc) = pc := by rfl) : Wp l G d mX2_bringBack pc lv st σ Q := wp_vc TX2_bringBack_ok cs k hpc h
def TX3_attempt : List In := [(0, 1, zt_aload 0), (1, 4, zt_getR 12 0), (4, 5, zt_ic 1), (5, 6, zt_iaload), (6, 9, zt_if_eq 19), (9, 10, zt_aload 0), (10, 13, zt_getR 12 1), (13, 15, zt_ic 11), (15, 16, zt_iaload), (16, 19, zt_if_eq 21), (19, 20, zt_ic (-1)), (20, 21, zt_iret), (21, 22, zt_aload 0), (22, 25, zt_getR 12 2), (25, 26, zt_aload 0), (26, 29, zt_getR 12 1), (29, 30, zt_ic 0), (30, 33, zt_callV mX8_look 2 16), (33, 34, zt_aload 0), (34, 35, zt_aload 0), (35, 38, zt_getR 12 1), (38, 39, zt_ic 0), (39, 40, zt_iaload), (40, 43, zt_putI 12 3), (43, 44, zt_iload 1), (44, 100, zt_tsw 0 9 [100, 106, 112, 118, 124, 129, 136, 145, 171, 189] 213), (100, 101, zt_aload 0), (101, 102, zt_ic 1), (102, 105, zt_callV mX3_passYear 1 12), (105, 106, zt_iret), (106, 107, zt_aload 0), (107, 108, zt_ic 0), (108, 111, zt_callV mX3_passYear 1 12), (111, 112, zt_iret), (112, 113, zt_aload 0), (113, 114, zt_ic 1), (114, 117, zt_callV mX3_giveNotice 1 12), (117, 118, zt_iret), (118, 119, zt_aload 0), (119, 120, zt_ic 2), (120, 123, zt_callV mX3_giveNotice 1 12), (123, 124, zt_iret), (124, 125, zt_aload 0), (125, 128, zt_callV mX3_takeNoticeBack 0 12), (128, 129, zt_iret), (129, 130, zt_aload 0), (130, 131, zt_iload 2), (131, 132, zt_iload 3), (132, 135, zt_callV mX3_tellInstalment 2 12), (135, 136, zt_iret), (136, 137, zt_aload 0), (137, 138, zt_iload 2), (138, 139, zt_iload 3), (139, 141, zt_iload 4), (141, 144, zt_callV mX3_tellRate 3 12), (144, 145, zt_iret), (145, 146, zt_aload 0), (146, 147, zt_aload 0), (147, 150, zt_getR 12 2), (150, 151, zt_aload 0), (151, 154, zt_getR 12 1), (154, 155, zt_ic 0), (155, 156, zt_ic 0), (156, 159, zt_callV mX8_reckon 3 16), (159, 162, zt_getR 15 2), (162, 163, zt_aload 0), (163, 166, zt_callV mX3_here 0 12), (166, 167, zt_iaload), (167, 170, zt_callV mX3_carryOut 1 12), (170, 171, zt_iret), (171, 172, zt_aload 0), (172, 173, zt_aload 0), (173, 176, zt_getR 12 2), (176, 177, zt_aload 0), (177, 180, zt_getR 12 1), (180, 181, zt_ic 0), (181, 182, zt_ic 0), (182, 185, zt_callV mX8_reckon 3 16), (185, 188, zt_callV mX3_takeDeeds 1 12), (188, 189, zt_iret), (189, 190, zt_aload 0), (190, 191, zt_aload 0), (191, 194, zt_getR 12 1), (194, 195, zt_aload 0), (195, 198, zt_getR 12 1), (198, 199, zt_ic 0), (199, 200, zt_iaload), (200, 201, zt_aload 0), (201, 204, zt_getR 12 1), (204, 205, zt_ic 1), (205, 206, zt_iaload), (206, 209, zt_callS mX0_deedOf 3), (209, 212, zt_callV mX3_carryOut 1 12), (212, 213, zt_iret), (213, 214, zt_ic (-1)), (214, 215, zt_iret)]
theorem TX3_attempt_ok : ∀ i ∈ TX3_attempt, Ent mX3_attempt i := by
  refine List.forall_mem_cons.mpr ⟨ze_aload_n (k := 0) (by decide +kernel) rfl, ?_⟩
  refine List.forall_mem_cons.mpr ⟨ze_getR (by decide +kernel) fl_X3_9 rfl, ?_⟩
  refine List.forall_mem_cons.mpr ⟨ze_iconst (n := 1) (by decide +kernel) (by decide), ?_⟩
  refine List.forall_mem_cons.mpr ⟨ze_iaload (by decide +kernel), ?_⟩
  refine List.forall_mem_cons.mpr ⟨ze_if_eq (off := 13) (by decide +kernel) (by decide), ?_⟩
  refine List.forall_mem_cons.mpr ⟨ze_aload_n (k := 0) (by decide +kernel) rfl, ?_⟩
  refine List.forall_mem_cons.mpr ⟨ze_getR (by decide +kernel) fl_X3_15 rfl, ?_⟩
  refine List.forall_mem_cons.mpr ⟨ze_bipush (n := 11) (by decide +kernel) (by decide), ?_⟩
  refine List.forall_mem_cons.mpr ⟨ze_iaload (by decide +kernel), ?_⟩
  refine List.forall_mem_cons.mpr ⟨ze_if_eq (off := 5) (by decide +kernel) (by decide), ?_⟩
  refine List.forall_mem_cons.mpr ⟨ze_iconst (n := -1) (by decide +kernel) (by decide), ?_⟩
  refine List.forall_mem_cons.mpr ⟨ze_iret (by decide +kernel) rfl, ?_⟩
  refine List.forall_mem_cons.mpr ⟨ze_aload_n (k := 0) (by decide +kernel) rfl, ?_⟩
  refine List.forall_mem_cons.mpr ⟨ze_getR (by decide +kernel) fl_X3_18 rfl, ?_⟩
  refine List.forall_mem_cons.mpr ⟨ze_aload_n (k := 0) (by decide +kernel) rfl, ?_⟩
  refine List.forall_mem_cons.mpr ⟨ze_getR (by decide +kernel) fl_X3_15 rfl, ?_⟩
  refine List.forall_mem_cons.mpr ⟨ze_iconst (n := 0) (by decide +kernel) (by decide), ?_⟩
  refine List.forall_mem_cons.mpr ⟨ze_callV (idx := 26) (by decide +kernel) ml_X3_26 mv_X8_look rfl, ?_⟩
  refine List.forall_mem_cons.mpr ⟨ze_aload_n (k := 0) (by decide +kernel) rfl, ?_⟩
  refine List.forall_mem_cons.mpr ⟨ze_aload_n (k := 0) (by decide +kernel) rfl, ?_⟩
  refine List.forall_mem_cons.mpr ⟨ze_getR (by decide +kernel) fl_X3_15 rfl, ?_⟩
  refine List.forall_mem_cons.mpr ⟨ze_iconst (n := 0) (by decide +kernel) (by decide), ?_⟩
  refine List.forall_mem_cons.mpr ⟨ze_iaload (by decide +kernel), ?_⟩
  refine List.forall_mem_cons.mpr ⟨ze_putI (by decide +kernel) fl_X3_32 ⟨_, _, _, rfl, rfl, by decide +kernel⟩ rfl, ?_⟩
  refine List.forall_mem_cons.mpr ⟨ze_iload_n (k := 1) (by decide +kernel) rfl, ?_⟩
  refine List.forall_mem_cons.mpr ⟨ze_tsw (len := 56) (df0 := 169) (offs := #[56, 62, 68, 74, 80, 85, 92, 101, 127, 145]) (by decide +kernel) (by decide) (by decide +kernel) (by decide), ?_⟩
  refine List.forall_mem_cons.mpr ⟨ze_aload_n (k := 0) (by decide +kernel) rfl, ?_⟩
  refine List.forall_mem_cons.mpr ⟨ze_iconst (n := 1) (by decide +kernel) (by decide), ?_⟩
  refine List.forall_mem_cons.mpr ⟨ze_callV (idx := 36) (by decide +kernel) ml_X3_36 mv_X3_passYear rfl, ?_⟩
  refine List.forall_mem_cons.mpr ⟨ze_iret (by decide +kernel) rfl, ?_⟩
  refine List.forall_mem_cons.mpr ⟨ze_aload_n (k := 0) (by decide +kernel) rfl, ?_⟩
  refine List.forall_mem_cons.mpr ⟨ze_iconst (n := 0) (by decide +kernel) (by decide), ?_⟩
  refine List.forall_mem_cons.mpr ⟨ze_callV (idx := 36) (by decide +kernel) ml_X3_36 mv_X3_passYear rfl, ?_⟩
  refine List.forall_mem_cons.mpr ⟨ze_iret (by decide +kernel) rfl, ?_⟩
  refine List.forall_mem_cons.mpr ⟨ze_aload_n (k := 0) (by decide +kernel) rfl, ?_⟩
  refine List.forall_mem_cons.mpr ⟨ze_iconst (n := 1) (by decide +kernel) (by decide), ?_⟩
  refine List.forall_mem_cons.mpr ⟨ze_callV (idx := 40) (by decide +kernel) ml_X3_40 mv_X3_giveNotice rfl, ?_⟩
  refine List.forall_mem_cons.mpr ⟨ze_iret (by decide +kernel) rfl, ?_⟩
  refine List.forall_mem_cons.mpr ⟨ze_aload_n (k := 0) (by decide +kernel) rfl, ?_⟩
  refine List.forall_mem_cons.mpr ⟨ze_iconst (n := 2) (by decide +kernel) (by decide), ?_⟩
  refine List.forall_mem_cons.mpr ⟨ze_callV (idx := 40) (by decide +kernel) ml_X3_40 mv_X3_giveNotice rfl, ?_⟩
  refine List.forall_mem_cons.mpr ⟨ze_iret (by decide +kernel) rfl, ?_⟩
  refine List.forall_mem_cons.mpr ⟨ze_aload_n (k := 0) (by decide +kernel) rfl, ?_⟩
  refine List.forall_mem_cons.mpr ⟨ze_callV (idx := 43) (by decide +kernel) ml_X3_43 mv_X3_takeNoticeBack rfl, ?_⟩
  refine List.forall_mem_cons.mpr ⟨ze_iret (by decide +kernel) rfl, ?_⟩
  refine List.forall_mem_cons.mpr ⟨ze_aload_n (k := 0) (by decide +kernel) rfl, ?_⟩
  refine List.forall_mem_cons.mpr ⟨ze_iload_n (k := 2) (by decide +kernel) rfl, ?_⟩
  refine List.forall_mem_cons.mpr ⟨ze_iload_n (k := 3) (by decide +kernel) rfl, ?_⟩
  refine List.forall_mem_cons.mpr ⟨ze_callV (idx := 47) (by decide +kernel) ml_X3_47 mv_X3_tellInstalment rfl, ?_⟩
  refine List.forall_mem_cons.mpr ⟨ze_iret (by decide +kernel) rfl, ?_⟩
  refine List.forall_mem_cons.mpr ⟨ze_aload_n (k := 0) (by decide +kernel) rfl, ?_⟩
  refine List.forall_mem_cons.mpr ⟨ze_iload_n (k := 2) (by decide +kernel) rfl, ?_⟩
  refine List.forall_mem_cons.mpr ⟨ze_iload_n (k := 3) (by decide +kernel) rfl, ?_⟩
  refine List.forall_mem_cons.mpr ⟨ze_iload (by decide +kernel), ?_⟩
  refine List.forall_mem_cons.mpr ⟨ze_callV (idx := 51) (by decide +kernel) ml_X3_51 mv_X3_tellRate rfl, ?_⟩
  refine List.forall_mem_cons.mpr ⟨ze_iret (by decide +kernel) rfl, ?_⟩
  refine List.forall_mem_cons.mpr ⟨ze_aload_n (k := 0) (by decide +kernel) rfl, ?_⟩
  refine List.forall_mem_cons.mpr ⟨ze_aload_n (k := 0) (by decide +kernel) rfl, ?_⟩
  refine List.forall_mem_cons.mpr ⟨ze_getR (by decide +kernel) fl_X3_18 rfl, ?_⟩
  refine List.forall_mem_cons.mpr ⟨ze_aload_n (k := 0) (by decide +kernel) rfl, ?_⟩
  refine List.forall_mem_cons.mpr ⟨ze_getR (by decide +kernel) fl_X3_15 rfl, ?_⟩
  refine List.forall_mem_cons.mpr ⟨ze_iconst (n := 0) (by decide +kernel) (by decide), ?_⟩
  refine List.forall_mem_cons.mpr ⟨ze_iconst (n := 0) (by decide +kernel) (by decide), ?_⟩
  refine List.forall_mem_cons.mpr ⟨ze_callV (idx := 55) (by decide +kernel) ml_X3_55 mv_X8_reckon rfl, ?_⟩
  refine List.forall_mem_cons.mpr ⟨ze_getR (by decide +kernel) fl_X3_59 rfl, ?_⟩
  refine List.forall_mem_cons.mpr ⟨ze_aload_n (k := 0) (by decide +kernel) rfl, ?_⟩
  refine List.forall_mem_cons.mpr ⟨ze_callV (idx := 64) (by decide +kernel) ml_X3_64 mv_X3_here rfl, ?_⟩
  refine List.forall_mem_cons.mpr ⟨ze_iaload (by decide +kernel), ?_⟩
  refine List.forall_mem_cons.mpr ⟨ze_callV (idx := 67) (by decide +kernel) ml_X3_67 mv_X3_carryOut rfl, ?_⟩
  refine List.forall_mem_cons.mpr ⟨ze_iret (by decide +kernel) rfl, ?_⟩
  refine List.forall_mem_cons.mpr ⟨ze_aload_n (k := 0) (by decide +kernel) rfl, ?_⟩
  refine List.forall_mem_cons.mpr ⟨ze_aload_n (k := 0) (by decide +kernel) rfl, ?_⟩
  refine List.forall_mem_cons.mpr ⟨ze_getR (by decide +kernel) fl_X3_18 rfl, ?_⟩
  refine List.forall_mem_cons.mpr ⟨ze_aload_n (k := 0) (by decide +kernel) rfl, ?_⟩
  refine List.forall_mem_cons.mpr ⟨ze_getR (by decide +kernel) fl_X3_15 rfl, ?_⟩
  refine List.forall_mem_cons.mpr ⟨ze_iconst (n := 0) (by decide +kernel) (by decide), ?_⟩
  refine List.forall_mem_cons.mpr ⟨ze_iconst (n := 0) (by decide +kernel) (by decide), ?_⟩
  refine List.forall_mem_cons.mpr ⟨ze_callV (idx := 55) (by decide +kernel) ml_X3_55 mv_X8_reckon rfl, ?_⟩
  refine List.forall_mem_cons.mpr ⟨ze_callV (idx := 70) (by decide +kernel) ml_X3_70 mv_X3_takeDeeds rfl, ?_⟩
  refine List.forall_mem_cons.mpr ⟨ze_iret (by decide +kernel) rfl, ?_⟩
  refine List.forall_mem_cons.mpr ⟨ze_aload_n (k := 0) (by decide +kernel) rfl, ?_⟩
  refine List.forall_mem_cons.mpr ⟨ze_aload_n (k := 0) (by decide +kernel) rfl, ?_⟩
  refine List.forall_mem_cons.mpr ⟨ze_getR (by decide +kernel) fl_X3_15 rfl, ?_⟩
  refine List.forall_mem_cons.mpr ⟨ze_aload_n (k := 0) (by decide +kernel) rfl, ?_⟩
  refine List.forall_mem_cons.mpr ⟨ze_getR (by decide +kernel) fl_X3_15 rfl, ?_⟩
  refine List.forall_mem_cons.mpr ⟨ze_iconst (n := 0) (by decide +kernel) (by decide), ?_⟩
  refine List.forall_mem_cons.mpr ⟨ze_iaload (by decide +kernel), ?_⟩
  refine List.forall_mem_cons.mpr ⟨ze_aload_n (k := 0) (by decide +kernel) rfl, ?_⟩
  refine List.forall_mem_cons.mpr ⟨ze_getR (by decide +kernel) fl_X3_15 rfl, ?_⟩
  refine List.forall_mem_cons.mpr ⟨ze_iconst (n := 1) (by decide +kernel) (by decide), ?_⟩
  refine List.forall_mem_cons.mpr ⟨ze_iaload (by decide +kernel), ?_⟩
  refine List.forall_mem_cons.mpr ⟨ze_callS (idx := 74) (by decide +kernel) ml_X3_74 ms_X0_deedOf, ?_⟩
  refine List.forall_mem_cons.mpr ⟨ze_callV (idx := 67) (by decide +kernel) ml_X3_67 mv_X3_carryOut rfl, ?_⟩
  refine List.forall_mem_cons.mpr ⟨ze_iret (by decide +kernel) rfl, ?_⟩
  refine List.forall_mem_cons.mpr ⟨ze_iconst (n := -1) (by decide +kernel) (by decide), ?_⟩
  refine List.forall_mem_cons.mpr ⟨ze_iret (by decide +kernel) rfl, ?_⟩
  exact fun _ h => absurd h List.not_mem_nil
theorem vX3_attempt {l : Launch} {G : GT} {d : Nat} {av : List Value} {Q : Po} {σ : Mm} (cs : List (Nat × List Nat)) (k : Nat) (h : vc l G d mX3_attempt TX3_attempt Q cs k TX3_attempt (lv_args 0 av) [] σ) (hlen : (lg_sl av).length ≤ mX3_attempt.2.2.1 := by exact Nat.le_of_ble_eq_true rfl) : MW l G d mX3_attempt av σ Q := mw_vc TX3_attempt_ok mc_X3_attempt rfl hlen cs k rfl h
theorem wX3_attempt {l : Launch} {G : GT} {d : Nat} {Q : Po} {pc : Nat} {lv : Lv} {st : List Value} {σ : Mm} (cs : List (Nat × List Nat)) (k : Nat) (h : vc l G d mX3_attempt TX3_attempt Q cs k (drp TX3_attempt pc) lv st σ) (hpc : hdp (drp TX3_attempt pc) = pc := by rfl) : Wp l G d mX3_attempt pc lv st σ Q := wp_vc TX3_attempt_ok cs k hpc h
def TX3_here : List In := [(0, 1, zt_aload 0), (1, 4, zt_getR 12 1), (4, 5, zt_ic 0), (5, 6, zt_iaload), (6, 7, zt_aload 0), (7, 10, zt_getR 12 1), (10, 11, zt_ic 1), (11, 12, zt_iaload), (12, 15, zt_callS mX8_nodeOf 2), (15, 16, zt_iret)]
theorem TX3_here_ok : ∀ i ∈ TX3_here, Ent mX3_here i := by
  refine List.forall_mem_cons.mpr ⟨ze_aload_n (k := 0) (by decide +kernel) rfl, ?_⟩
  refine List.forall_mem_cons.mpr ⟨ze_getR (by decide +kernel) fl_X3_15 rfl, ?_⟩
  refine List.forall_mem_cons.mpr ⟨ze_iconst (n := 0) (by decide +kernel) (by decide), ?_⟩
  refine List.forall_mem_cons.mpr ⟨ze_iaload (by decide +kernel), ?_⟩
  refine List.forall_mem_cons.mpr ⟨ze_aload_n (k := 0) (by decide +kernel) rfl, ?_⟩
  refine List.forall_mem_cons.mpr ⟨ze_getR (by decide +kernel) fl_X3_15 rfl, ?_⟩
  refine List.forall_mem_cons.mpr ⟨ze_iconst (n := 1) (by decide +kernel) (by decide), ?_⟩
  refine List.forall_mem_cons.mpr ⟨ze_iaload (by decide +kernel), ?_⟩
  refine List.forall_mem_cons.mpr ⟨ze_callS (idx := 78) (by decide +kernel) ml_X3_78 ms_X8_nodeOf, ?_⟩
  refine List.forall_mem_cons.mpr ⟨ze_iret (by decide +kernel) rfl, ?_⟩
  exact fun _ h => absurd h List.not_mem_nil
theorem vX3_here {l : Launch} {G : GT} {d : Nat} {av : List Value} {Q : Po} {σ : Mm} (cs : List (Nat × List Nat)) (k : Nat) (h : vc l G d mX3_here TX3_here Q cs k TX3_here (lv_args 0 av) [] σ) (hlen : (lg_sl av).length ≤ mX3_here.2.2.1 := by exact Nat.le_of_ble_eq_true rfl) : MW l G d mX3_here av σ Q := mw_vc TX3_here_ok mc_X3_here rfl hlen cs k rfl h
theorem wX3_here {l : Launch} {G : GT} {d : Nat} {Q : Po} {pc : Nat} {lv : Lv} {st : List Value} {σ : Mm} (cs : List (Nat × List Nat)) (k : Nat) (h : vc l G d mX3_here TX3_here Q cs k (drp TX3_here pc) lv st σ) (hpc : hdp (drp TX3_here pc) = pc := by rfl) : Wp l G d mX3_here pc lv st σ Q := wp_vc TX3_here_ok cs k hpc h
def TX3_passYear : List In := [(0, 1, zt_aload 0), (1, 4, zt_getR 12 1), (4, 5, zt_ic 0), (5, 6, zt_iaload), (6, 7, zt_ic 1), (7, 8, zt_iadd), (8, 9, zt_istore 2), (9, 10, zt_aload 0), (10, 13, zt_getR 12 2), (13, 14, zt_iload 2), (14, 15, zt_aload 0), (15, 18, zt_getR 12 1), (18, 19, zt_ic 2), (19, 20, zt_iaload), (20, 23, zt_callV mX8_interestOf 2 16), (23, 24, zt_istore 3), (24, 25, zt_aload 0), (25, 28, zt_getR 12 2), (28, 29, zt_iload 2), (29, 30, zt_aload 0), (30, 33, zt_getR 12 1), (33, 34, zt_ic 2), (34, 35, zt_iaload), (35, 38, zt_callV mX8_dueAt 2 16), (38, 40, zt_istore 4), (40, 41, zt_aload 0), (41, 42, zt_iload 2), (42, 45, zt_putI 12 3), (45, 46, zt_aload 0), (46, 49, zt_getR 12 1), (49, 50, zt_ic 0), (50, 51, zt_iload 2), (51, 52, zt_iastore), (52, 53, zt_aload 0), (53, 56, zt_getR 12 1), (56, 57, zt_ic 1), (57, 58, zt_dup2), (58, 59, zt_iaload), (59, 60, zt_iload 1), (60, 61, zt_iadd), (61, 62, zt_iastore), (62, 63, zt_aload 0), (63, 66, zt_getR 12 1), (66, 68, zt_ic 7), (68, 69, zt_dup2), (69, 70, zt_iaload), (70, 71, zt_iload 3), (71, 72, zt_iadd), (72, 73, zt_iastore), (73, 74, zt_aload 0), (74, 77, zt_getR 12 1), (77, 79, zt_ic 6), (79, 80, zt_dup2), (80, 81, zt_iaload), (81, 83, zt_iload 4), (83, 84, zt_iadd), (84, 85, zt_iastore), (85, 86, zt_aload 0), (86, 89, zt_getR 12 1), (89, 90, zt_ic 4), (90, 91, zt_iaload), (91, 94, zt_if_eq 128), (94, 95, zt_aload 0), (95, 98, zt_getR 12 1), (98, 99, zt_ic 5), (99, 100, zt_dup2), (100, 101, zt_iaload), (101, 102, zt_ic 1), (102, 103, zt_isub), (103, 104, zt_iastore), (104, 105, zt_aload 0), (105, 108, zt_getR 12 1), (108, 109, zt_ic 5), (109, 110, zt_iaload), (110, 113, zt_if_gt 128), (113, 115, zt_iload 4), (115, 116, zt_aload 0), (116, 117, zt_aload 0), (117, 120, zt_getR 12 1), (120, 121, zt_ic 4), (121, 122, zt_iaload), (122, 125, zt_callV mX3_settleNotice 1 12), (125, 126, zt_iadd), (126, 128, zt_istore 4), (128, 129, zt_iload 2), (129, 130, zt_aload 0), (130, 133, zt_getR 12 0), (133, 134, zt_ic 1), (134, 135, zt_iaload), (135, 138, zt_icmp_lt 146), (138, 139, zt_aload 0), (139, 142, zt_getR 12 1), (142, 144, zt_ic 11), (144, 145, zt_ic 1), (145, 146, zt_iastore), (146, 148, zt_iload 4), (148, 149, zt_iret)]
theorem TX3_passYear_ok : ∀ i ∈ TX3_passYear, Ent mX3_passYear i := by
  refine List.forall_mem_cons.mpr ⟨ze_aload_n (k := 0) (by decide +kernel) rfl, ?_⟩
  refine List.forall_mem_cons.mpr ⟨ze_getR (by decide +kernel) fl_X3_15 rfl, ?_⟩
  refine List.forall_mem_cons.mpr ⟨ze_iconst (n := 0) (by decide +kernel) (by decide), ?_⟩
  refine List.forall_mem_cons.mpr ⟨ze_iaload (by decide +kernel), ?_⟩
  refine List.forall_mem_cons.mpr ⟨ze_iconst (n := 1) (by decide +kernel) (by decide), ?_⟩
  refine List.forall_mem_cons.mpr ⟨ze_iadd (by decide +kernel), ?_⟩
  refine List.forall_mem_cons.mpr ⟨ze_istore_n (k := 2) (by decide +kernel) rfl (by decide), ?_⟩
  refine List.forall_mem_cons.mpr ⟨ze_aload_n (k := 0) (by decide +kernel) rfl, ?_⟩
  refine List.forall_mem_cons.mpr ⟨ze_getR (by decide +kernel) fl_X3_18 rfl, ?_⟩
  refine List.forall_mem_cons.mpr ⟨ze_iload_n (k := 2) (by decide +kernel) rfl, ?_⟩
  refine List.forall_mem_cons.mpr ⟨ze_aload_n (k := 0) (by decide +kernel) rfl, ?_⟩
  refine List.forall_mem_cons.mpr ⟨ze_getR (by decide +kernel) fl_X3_15 rfl, ?_⟩
  refine List.forall_mem_cons.mpr ⟨ze_iconst (n := 2) (by decide +kernel) (by decide), ?_⟩
  refine List.forall_mem_cons.mpr ⟨ze_iaload (by decide +kernel), ?_⟩
  refine List.forall_mem_cons.mpr ⟨ze_callV (idx := 81) (by decide +kernel) ml_X3_81 mv_X8_interestOf rfl, ?_⟩
  refine List.forall_mem_cons.mpr ⟨ze_istore_n (k := 3) (by decide +kernel) rfl (by decide), ?_⟩
  refine List.forall_mem_cons.mpr ⟨ze_aload_n (k := 0) (by decide +kernel) rfl, ?_⟩
  refine List.forall_mem_cons.mpr ⟨ze_getR (by decide +kernel) fl_X3_18 rfl, ?_⟩
  refine List.forall_mem_cons.mpr ⟨ze_iload_n (k := 2) (by decide +kernel) rfl, ?_⟩
  refine List.forall_mem_cons.mpr ⟨ze_aload_n (k := 0) (by decide +kernel) rfl, ?_⟩
  refine List.forall_mem_cons.mpr ⟨ze_getR (by decide +kernel) fl_X3_15 rfl, ?_⟩
  refine List.forall_mem_cons.mpr ⟨ze_iconst (n := 2) (by decide +kernel) (by decide), ?_⟩
  refine List.forall_mem_cons.mpr ⟨ze_iaload (by decide +kernel), ?_⟩
  refine List.forall_mem_cons.mpr ⟨ze_callV (idx := 84) (by decide +kernel) ml_X3_84 mv_X8_dueAt rfl, ?_⟩
  refine List.forall_mem_cons.mpr ⟨ze_istore (by decide +kernel) (by decide), ?_⟩
  refine List.forall_mem_cons.mpr ⟨ze_aload_n (k := 0) (by decide +kernel) rfl, ?_⟩
  refine List.forall_mem_cons.mpr ⟨ze_iload_n (k := 2) (by decide +kernel) rfl, ?_⟩
  refine List.forall_mem_cons.mpr ⟨ze_putI (by decide +kernel) fl_X3_32 ⟨_, _, _, rfl, rfl, by decide +kernel⟩ rfl, ?_⟩
  refine List.forall_mem_cons.mpr ⟨ze_aload_n (k := 0) (by decide +kernel) rfl, ?_⟩
  refine List.forall_mem_cons.mpr ⟨ze_getR (by decide +kernel) fl_X3_15 rfl, ?_⟩
  refine List.forall_mem_cons.mpr ⟨ze_iconst (n := 0) (by decide +kernel) (by decide), ?_⟩
  refine List.forall_mem_cons.mpr ⟨ze_iload_n (k := 2) (by decide +kernel) rfl, ?_⟩
  refine List.forall_mem_cons.mpr ⟨ze_iastore (by decide +kernel), ?_⟩
  refine List.forall_mem_cons.mpr ⟨ze_aload_n (k := 0) (by decide +kernel) rfl, ?_⟩
  refine List.forall_mem_cons.mpr ⟨ze_getR (by decide +kernel) fl_X3_15 rfl, ?_⟩
  refine List.forall_mem_cons.mpr ⟨ze_iconst (n := 1) (by decide +kernel) (by decide), ?_⟩
  refine List.forall_mem_cons.mpr ⟨ze_dup2 (by decide +kernel), ?_⟩
  refine List.forall_mem_cons.mpr ⟨ze_iaload (by decide +kernel), ?_⟩
  refine List.forall_mem_cons.mpr ⟨ze_iload_n (k := 1) (by decide +kernel) rfl, ?_⟩
  refine List.forall_mem_cons.mpr ⟨ze_iadd (by decide +kernel), ?_⟩
  refine List.forall_mem_cons.mpr ⟨ze_iastore (by decide +kernel), ?_⟩
  refine List.forall_mem_cons.mpr ⟨ze_aload_n (k := 0) (by decide +kernel) rfl, ?_⟩
  refine List.forall_mem_cons.mpr ⟨ze_getR (by decide +kernel) fl_X3_15 rfl, ?_⟩
  refine List.forall_mem_cons.mpr ⟨ze_bipush (n := 7) (by decide +kernel) (by decide), ?_⟩
  refine List.forall_mem_cons.mpr ⟨ze_dup2 (by decide +kernel), ?_⟩
  refine List.forall_mem_cons.mpr ⟨ze_iaload (by decide +kernel), ?_⟩
  refine List.forall_mem_cons.mpr ⟨ze_iload_n (k := 3) (by decide +kernel) rfl, ?_⟩
  refine List.forall_mem_cons.mpr ⟨ze_iadd (by decide +kernel), ?_⟩
  refine List.forall_mem_cons.mpr ⟨ze_iastore (by decide +kernel), ?_⟩
  refine List.forall_mem_cons.mpr ⟨ze_aload_n (k := 0) (by decide +kernel) rfl, ?_⟩
  refine List.forall_mem_cons.mpr ⟨ze_getR (by decide +kernel) fl_X3_15 rfl, ?_⟩
  refine List.forall_mem_cons.mpr ⟨ze_bipush (n := 6) (by decide +kernel) (by decide), ?_⟩
  refine List.forall_mem_cons.mpr ⟨ze_dup2 (by decide +kernel), ?_⟩
  refine List.forall_mem_cons.mpr ⟨ze_iaload (by decide +kernel), ?_⟩
  refine List.forall_mem_cons.mpr ⟨ze_iload (by decide +kernel), ?_⟩
  refine List.forall_mem_cons.mpr ⟨ze_iadd (by decide +kernel), ?_⟩
  refine List.forall_mem_cons.mpr ⟨ze_iastore (by decide +kernel), ?_⟩
  refine List.forall_mem_cons.mpr ⟨ze_aload_n (k := 0) (by decide +kernel) rfl, ?_⟩
  refine List.forall_mem_cons.mpr ⟨ze_getR (by decide +kernel) fl_X3_15 rfl, ?_⟩
  refine List.forall_mem_cons.mpr ⟨ze_iconst (n := 4) (by decide +kernel) (by decide), ?_⟩
  refine List.forall_mem_cons.mpr ⟨ze_iaload (by decide +kernel), ?_⟩
  refine List.forall_mem_cons.mpr ⟨ze_if_eq (off := 37) (by decide +kernel) (by decide), ?_⟩
  refine List.forall_mem_cons.mpr ⟨ze_aload_n (k := 0) (by decide +kernel) rfl, ?_⟩
  refine List.forall_mem_cons.mpr ⟨ze_getR (by decide +kernel) fl_X3_15 rfl, ?_⟩
  refine List.forall_mem_cons.mpr ⟨ze_iconst (n := 5) (by decide +kernel) (by decide), ?_⟩
  refine List.forall_mem_cons.mpr ⟨ze_dup2 (by decide +kernel), ?_⟩
  refine List.forall_mem_cons.mpr ⟨ze_iaload (by decide +kernel), ?_⟩
  refine List.forall_mem_cons.mpr ⟨ze_iconst (n := 1) (by decide +kernel) (by decide), ?_⟩
  refine List.forall_mem_cons.mpr ⟨ze_isub (by decide +kernel), ?_⟩
  refine List.forall_mem_cons.mpr ⟨ze_iastore (by decide +kernel), ?_⟩
  refine List.forall_mem_cons.mpr ⟨ze_aload_n (k := 0) (by decide +kernel) rfl, ?_⟩
  refine List.forall_mem_cons.mpr ⟨ze_getR (by decide +kernel) fl_X3_15 rfl, ?_⟩
  refine List.forall_mem_cons.mpr ⟨ze_iconst (n := 5) (by decide +kernel) (by decide), ?_⟩
  refine List.forall_mem_cons.mpr ⟨ze_iaload (by decide +kernel), ?_⟩
  refine List.forall_mem_cons.mpr ⟨ze_if_gt (off := 18) (by decide +kernel) (by decide), ?_⟩
  refine List.forall_mem_cons.mpr ⟨ze_iload (by decide +kernel), ?_⟩
  refine List.forall_mem_cons.mpr ⟨ze_aload_n (k := 0) (by decide +kernel) rfl, ?_⟩
  refine List.forall_mem_cons.mpr ⟨ze_aload_n (k := 0) (by decide +kernel) rfl, ?_⟩
  refine List.forall_mem_cons.mpr ⟨ze_getR (by decide +kernel) fl_X3_15 rfl, ?_⟩
  refine List.forall_mem_cons.mpr ⟨ze_iconst (n := 4) (by decide +kernel) (by decide), ?_⟩
  refine List.forall_mem_cons.mpr ⟨ze_iaload (by decide +kernel), ?_⟩
  refine List.forall_mem_cons.mpr ⟨ze_callV (idx := 87) (by decide +kernel) ml_X3_87 mv_X3_settleNotice rfl, ?_⟩
  refine List.forall_mem_cons.mpr ⟨ze_iadd (by decide +kernel), ?_⟩
  refine List.forall_mem_cons.mpr ⟨ze_istore (by decide +kernel) (by decide), ?_⟩
  refine List.forall_mem_cons.mpr ⟨ze_iload_n (k := 2) (by decide +kernel) rfl, ?_⟩
  refine List.forall_mem_cons.mpr ⟨ze_aload_n (k := 0) (by decide +kernel) rfl, ?_⟩
  refine List.forall_mem_cons.mpr ⟨ze_getR (by decide +kernel) fl_X3_9 rfl, ?_⟩
  refine List.forall_mem_cons.mpr ⟨ze_iconst (n := 1) (by decide +kernel) (by decide), ?_⟩
  refine List.forall_mem_cons.mpr ⟨ze_iaload (by decide +kernel), ?_⟩
  refine List.forall_mem_cons.mpr ⟨ze_icmp_lt (off := 11) (by decide +kernel) (by decide), ?_⟩
  refine List.forall_mem_cons.mpr ⟨ze_aload_n (k := 0) (by decide +kernel) rfl, ?_⟩
  refine List.forall_mem_cons.mpr ⟨ze_getR (by decide +kernel) fl_X3_15 rfl, ?_⟩
  refine List.forall_mem_cons.mpr ⟨ze_bipush (n := 11) (by decide +kernel) (by decide), ?_⟩
  refine List.forall_mem_cons.mpr ⟨ze_iconst (n := 1) (by decide +kernel) (by decide), ?_⟩
  refine List.forall_mem_cons.mpr ⟨ze_iastore (by decide +kernel), ?_⟩
  refine List.forall_mem_cons.mpr ⟨ze_iload (by decide +kernel), ?_⟩
  refine List.forall_mem_cons.mpr ⟨ze_iret (by decide +kernel) rfl, ?_⟩
  exact fun _ h => absurd h List.not_mem_nil
theorem vX3_passYear {l : Launch} {G : GT} {d : Nat} {av : List Value} {Q : Po} {σ : Mm} (cs : List (Nat × List Nat)) (k : Nat) (h : vc l G d mX3_passYear TX3_passYear Q cs k TX3_passYear (lv_args 0 av) [] σ) (hlen : (lg_sl av).length ≤ mX3_passYear.2.2.1 := by exact Nat.le_of_ble_eq_true rfl) : MW l G d mX3_passYear av σ Q := mw_vc TX3_passYear_ok mc_X3_passYear rfl hlen cs k rfl h
theorem wX3_passYear {l : Launch} {G : GT} {d : Nat} {Q : Po} {pc : Nat} {lv : Lv} {st : List Value} {σ : Mm} (cs : List (Nat × List Nat)) (k : Nat) (h : vc l G d mX3_passYear TX3_passYear Q cs k (drp TX3_passYear pc) lv st σ) (hpc : hdp (drp TX3_passYear pc) = pc := by rfl) : Wp l G d mX3_passYear pc lv st σ Q := wp_vc TX3_passYear_ok cs k hpc h
def TX3_giveNotice : List In := [(0, 1, zt_aload 0), (1, 4, zt_getR 12 1), (4, 5, zt_ic 4), (5, 6, zt_iaload), (6, 9, zt_if_eq 12), (9, 11, zt_ic (-3)), (11, 12, zt_iret), (12, 13, zt_iload 1), (13, 14, zt_aload 0), (14, 17, zt_getR 12 2), (17, 18, zt_aload 0), (18, 21, zt_getR 12 1), (21, 22, zt_ic 0), (22, 23, zt_iaload), (23, 24, zt_aload 0), (24, 27, zt_getR 12 1), (27, 28, zt_ic 3), (28, 29, zt_iaload), (29, 32, zt_callV mX8_lastAllowed 2 16), (32, 35, zt_icmp_le 38), (35, 37, zt_ic (-4)), (37, 38, zt_iret), (38, 39, zt_aload 0), (39, 42, zt_getR 12 0), (42, 44, zt_ic 10), (44, 45, zt_iaload), (45, 48, zt_if_ne 54), (48, 49, zt_aload 0), (49, 50, zt_iload 1), (50, 53, zt_callV mX3_settleNotice 1 12), (53, 54, zt_iret), (54, 55, zt_aload 0), (55, 58, zt_getR 12 1), (58, 59, zt_ic 4), (59, 60, zt_iload 1), (60, 61, zt_iastore), (61, 62, zt_aload 0), (62, 65, zt_getR 12 1), (65, 66, zt_ic 5), (66, 67, zt_aload 0), (67, 70, zt_getR 12 0), (70, 72, zt_ic 10), (72, 73, zt_iaload), (73, 74, zt_iastore), (74, 75, zt_ic 0), (75, 76, zt_iret)]
theorem TX3_giveNotice_ok : ∀ i ∈ TX3_giveNotice, Ent mX3_giveNotice i := by
  refine List.forall_mem_cons.mpr ⟨ze_aload_n (k := 0) (by decide +kernel) rfl, ?_⟩
  refine List.forall_mem_cons.mpr ⟨ze_getR (by decide +kernel) fl_X3_15 rfl, ?_⟩
  refine List.forall_mem_cons.mpr ⟨ze_iconst (n := 4) (by decide +kernel) (by decide), ?_⟩
  refine List.forall_mem_cons.mpr ⟨ze_iaload (by decide +kernel), ?_⟩
  refine List.forall_mem_cons.mpr ⟨ze_if_eq (off := 6) (by decide +kernel) (by decide), ?_⟩
  refine List.forall_mem_cons.mpr ⟨ze_bipush (n := -3) (by decide +kernel) (by decide), ?_⟩
  refine List.forall_mem_cons.mpr ⟨ze_iret (by decide +kernel) rfl, ?_⟩
  refine List.forall_mem_cons.mpr ⟨ze_iload_n (k := 1) (by decide +kernel) rfl, ?_⟩
  refine List.forall_mem_cons.mpr ⟨ze_aload_n (k := 0) (by decide +kernel) rfl, ?_⟩
  refine List.forall_mem_cons.mpr ⟨ze_getR (by decide +kernel) fl_X3_18 rfl, ?_⟩
  refine List.forall_mem_cons.mpr ⟨ze_aload_n (k := 0) (by decide +kernel) rfl, ?_⟩
  refine List.forall_mem_cons.mpr ⟨ze_getR (by decide +kernel) fl_X3_15 rfl, ?_⟩
  refine List.forall_mem_cons.mpr ⟨ze_iconst (n := 0) (by decide +kernel) (by decide), ?_⟩
  refine List.forall_mem_cons.mpr ⟨ze_iaload (by decide +kernel), ?_⟩
  refine List.forall_mem_cons.mpr ⟨ze_aload_n (k := 0) (by decide +kernel) rfl, ?_⟩
  refine List.forall_mem_cons.mpr ⟨ze_getR (by decide +kernel) fl_X3_15 rfl, ?_⟩
  refine List.forall_mem_cons.mpr ⟨ze_iconst (n := 3) (by decide +kernel) (by decide), ?_⟩
  refine List.forall_mem_cons.mpr ⟨ze_iaload (by decide +kernel), ?_⟩
  refine List.forall_mem_cons.mpr ⟨ze_callV (idx := 90) (by decide +kernel) ml_X3_90 mv_X8_lastAllowed rfl, ?_⟩
  refine List.forall_mem_cons.mpr ⟨ze_icmp_le (off := 6) (by decide +kernel) (by decide), ?_⟩
  refine List.forall_mem_cons.mpr ⟨ze_bipush (n := -4) (by decide +kernel) (by decide), ?_⟩
  refine List.forall_mem_cons.mpr ⟨ze_iret (by decide +kernel) rfl, ?_⟩
  refine List.forall_mem_cons.mpr ⟨ze_aload_n (k := 0) (by decide +kernel) rfl, ?_⟩
  refine List.forall_mem_cons.mpr ⟨ze_getR (by decide +kernel) fl_X3_9 rfl, ?_⟩
  refine List.forall_mem_cons.mpr ⟨ze_bipush (n := 10) (by decide +kernel) (by decide), ?_⟩
  refine List.forall_mem_cons.mpr ⟨ze_iaload (by decide +kernel), ?_⟩
  refine List.forall_mem_cons.mpr ⟨ze_if_ne (off := 9) (by decide +kernel) (by decide), ?_⟩
  refine List.forall_mem_cons.mpr ⟨ze_aload_n (k := 0) (by decide +kernel) rfl, ?_⟩
  refine List.forall_mem_cons.mpr ⟨ze_iload_n (k := 1) (by decide +kernel) rfl, ?_⟩
  refine List.forall_mem_cons.mpr ⟨ze_callV (idx := 87) (by decide +kernel) ml_X3_87 mv_X3_settleNotice rfl, ?_⟩
  refine List.forall_mem_cons.mpr ⟨ze_iret (by decide +kernel) rfl, ?_⟩
  refine List.forall_mem_cons.mpr ⟨ze_aload_n (k := 0) (by decide +kernel) rfl, ?_⟩
  refine List.forall_mem_cons.mpr ⟨ze_getR (by decide +kernel) fl_X3_15 rfl, ?_⟩
  refine List.forall_mem_cons.mpr ⟨ze_iconst (n := 4) (by decide +kernel) (by decide), ?_⟩
  refine List.forall_mem_cons.mpr ⟨ze_iload_n (k := 1) (by decide +kernel) rfl, ?_⟩
  refine List.forall_mem_cons.mpr ⟨ze_iastore (by decide +kernel), ?_⟩
  refine List.forall_mem_cons.mpr ⟨ze_aload_n (k := 0) (by decide +kernel) rfl, ?_⟩
  refine List.forall_mem_cons.mpr ⟨ze_getR (by decide +kernel) fl_X3_15 rfl, ?_⟩
  refine List.forall_mem_cons.mpr ⟨ze_iconst (n := 5) (by decide +kernel) (by decide), ?_⟩
  refine List.forall_mem_cons.mpr ⟨ze_aload_n (k := 0) (by decide +kernel) rfl, ?_⟩
  refine List.forall_mem_cons.mpr ⟨ze_getR (by decide +kernel) fl_X3_9 rfl, ?_⟩
  refine List.forall_mem_cons.mpr ⟨ze_bipush (n := 10) (by decide +kernel) (by decide), ?_⟩
  refine List.forall_mem_cons.mpr ⟨ze_iaload (by decide +kernel), ?_⟩
  refine List.forall_mem_cons.mpr ⟨ze_iastore (by decide +kernel), ?_⟩
  refine List.forall_mem_cons.mpr ⟨ze_iconst (n := 0) (by decide +kernel) (by decide), ?_⟩
  refine List.forall_mem_cons.mpr ⟨ze_iret (by decide +kernel) rfl, ?_⟩
  exact fun _ h => absurd h List.not_mem_nil
theorem vX3_giveNotice {l : Launch} {G : GT} {d : Nat} {av : List Value} {Q : Po} {σ : Mm} (cs : List (Nat × List Nat)) (k : Nat) (h : vc l G d mX3_giveNotice TX3_giveNotice Q cs k TX3_giveNotice (lv_args 0 av) [] σ) (hlen : (lg_sl av).length ≤ mX3_giveNotice.2.2.1 := by exact Nat.le_of_ble_eq_true rfl) : MW l G d mX3_giveNotice av σ Q := mw_vc TX3_giveNotice_ok mc_X3_giveNotice rfl hlen cs k rfl h
theorem wX3_giveNotice {l : Launch} {G : GT} {d : Nat} {Q : Po} {pc : Nat} {lv : Lv} {st : List Value} {σ : Mm} (cs : List (Nat × List Nat)) (k : Nat) (h : vc l G d mX3_giveNotice TX3_giveNotice Q cs k (drp TX3_giveNotice pc) lv st σ) (hpc : hdp (drp TX3_giveNotice pc) = pc := by rfl) : Wp l G d mX3_giveNotice pc lv st σ Q := wp_vc TX3_giveNotice_ok cs k hpc h
def TX3_settleNotice : List In := [(0, 1, zt_aload 0), (1, 4, zt_getR 12 1), (4, 5, zt_ic 0), (5, 6, zt_iaload), (6, 7, zt_istore 2), (7, 8, zt_aload 0), (8, 11, zt_getR 12 2), (11, 14, zt_getR 16 2), (14, 15, zt_iload 2), (15, 16, zt_iaload), (16, 17, zt_istore 3), (17, 18, zt_aload 0), (18, 21, zt_getR 12 1), (21, 22, zt_ic 4), (22, 23, zt_ic 0), (23, 24, zt_iastore), (24, 25, zt_aload 0), (25, 28, zt_getR 12 1), (28, 29, zt_ic 5), (29, 30, zt_ic 0), (30, 31, zt_iastore), (31, 32, zt_aload 0), (32, 35, zt_getR 12 1), (35, 37, zt_ic 8), (37, 38, zt_dup2), (38, 39, zt_iaload), (39, 40, zt_aload 0), (40, 43, zt_getR 12 2), (43, 46, zt_getR 16 2), (46, 47, zt_iload 2), (47, 48, zt_iaload), (48, 49, zt_aload 0), (49, 52, zt_getR 12 2), (52, 55, zt_getR 16 0), (55, 56, zt_iload 2), (56, 57, zt_iaload), (57, 58, zt_isub), (58, 59, zt_iadd), (59, 60, zt_iastore), (60, 61, zt_iload 1), (61, 62, zt_ic 1), (62, 65, zt_icmp_ne 76), (65, 66, zt_aload 0), (66, 69, zt_getR 12 1), (69, 71, zt_ic 11), (71, 72, zt_ic 1), (72, 73, zt_iastore), (73, 76, zt_goto 148), (76, 77, zt_aload 0), (77, 80, zt_getR 12 2), (80, 81, zt_iload 2), (81, 84, zt_callV mX8_renewalAt 1 16), (84, 85, zt_istore 3), (85, 86, zt_aload 0), (86, 89, zt_getR 12 1), (89, 91, zt_ic 9), (91, 92, zt_dup2), (92, 93, zt_iaload), (93, 94, zt_aload 0), (94, 97, zt_getR 12 0), (97, 99, zt_ic 13), (99, 100, zt_iaload), (100, 101, zt_iadd), (101, 102, zt_iastore), (102, 103, zt_aload 0), (103, 106, zt_getR 12 1), (106, 107, zt_ic 2), (107, 108, zt_aload 0), (108, 111, zt_getR 12 2), (111, 112, zt_aload 0), (112, 115, zt_getR 12 1), (115, 117, zt_ic 25), (117, 118, zt_aload 0), (118, 121, zt_callV mX3_here 0 12), (121, 122, zt_iadd), (122, 123, zt_iaload), (123, 126, zt_callV mX8_couponAt 1 16), (126, 127, zt_iastore), (127, 128, zt_aload 0), (128, 131, zt_getR 12 1), (131, 132, zt_ic 3), (132, 133, zt_dup2), (133, 134, zt_iaload), (134, 135, zt_ic 1), (135, 136, zt_isub), (136, 137, zt_iastore), (137, 138, zt_aload 0), (138, 141, zt_getR 12 1), (141, 143, zt_ic 10), (143, 144, zt_dup2), (144, 145, zt_iaload), (145, 146, zt_ic 1), (146, 147, zt_iadd), (147, 148, zt_iastore), (148, 149, zt_aload 0), (149, 152, zt_getR 12 1), (152, 154, zt_ic 6), (154, 155, zt_dup2), (155, 156, zt_iaload), (156, 157, zt_iload 3), (157, 158, zt_iadd), (158, 159, zt_iastore), (159, 160, zt_iload 3), (160, 161, zt_iret)]
theorem TX3_settleNotice_ok : ∀ i ∈ TX3_settleNotice, Ent mX3_settleNotice i := by
  refine List.forall_mem_cons.mpr ⟨ze_aload_n (k := 0) (by decide +kernel) rfl, ?_⟩
  refine List.forall_mem_cons.mpr ⟨ze_getR (by decide +kernel) fl_X3_15 rfl, ?_⟩
  refine List.forall_mem_cons.mpr ⟨ze_iconst (n := 0) (by decide +kernel) (by decide), ?_⟩
  refine List.forall_mem_cons.mpr ⟨ze_iaload (by decide +kernel), ?_⟩
  refine List.forall_mem_cons.mpr ⟨ze_istore_n (k := 2) (by decide +kernel) rfl (by decide), ?_⟩
  refine List.forall_mem_cons.mpr ⟨ze_aload_n (k := 0) (by decide +kernel) rfl, ?_⟩
  refine List.forall_mem_cons.mpr ⟨ze_getR (by decide +kernel) fl_X3_18 rfl, ?_⟩
  refine List.forall_mem_cons.mpr ⟨ze_getR (by decide +kernel) fl_X3_93 rfl, ?_⟩
  refine List.forall_mem_cons.mpr ⟨ze_iload_n (k := 2) (by decide +kernel) rfl, ?_⟩
  refine List.forall_mem_cons.mpr ⟨ze_iaload (by decide +kernel), ?_⟩
  refine List.forall_mem_cons.mpr ⟨ze_istore_n (k := 3) (by decide +kernel) rfl (by decide), ?_⟩
  refine List.forall_mem_cons.mpr ⟨ze_aload_n (k := 0) (by decide +kernel) rfl, ?_⟩
  refine List.forall_mem_cons.mpr ⟨ze_getR (by decide +kernel) fl_X3_15 rfl, ?_⟩
  refine List.forall_mem_cons.mpr ⟨ze_iconst (n := 4) (by decide +kernel) (by decide), ?_⟩
  refine List.forall_mem_cons.mpr ⟨ze_iconst (n := 0) (by decide +kernel) (by decide), ?_⟩
  refine List.forall_mem_cons.mpr ⟨ze_iastore (by decide +kernel), ?_⟩
  refine List.forall_mem_cons.mpr ⟨ze_aload_n (k := 0) (by decide +kernel) rfl, ?_⟩
  refine List.forall_mem_cons.mpr ⟨ze_getR (by decide +kernel) fl_X3_15 rfl, ?_⟩
  refine List.forall_mem_cons.mpr ⟨ze_iconst (n := 5) (by decide +kernel) (by decide), ?_⟩
  refine List.forall_mem_cons.mpr ⟨ze_iconst (n := 0) (by decide +kernel) (by decide), ?_⟩
  refine List.forall_mem_cons.mpr ⟨ze_iastore (by decide +kernel), ?_⟩
  refine List.forall_mem_cons.mpr ⟨ze_aload_n (k := 0) (by decide +kernel) rfl, ?_⟩
  refine List.forall_mem_cons.mpr ⟨ze_getR (by decide +kernel) fl_X3_15 rfl, ?_⟩
  refine List.forall_mem_cons.mpr ⟨ze_bipush (n := 8) (by decide +kernel) (by decide), ?_⟩
  refine List.forall_mem_cons.mpr ⟨ze_dup2 (by decide +kernel), ?_⟩
  refine List.forall_mem_cons.mpr ⟨ze_iaload (by decide +kernel), ?_⟩
  refine List.forall_mem_cons.mpr ⟨ze_aload_n (k := 0) (by decide +kernel) rfl, ?_⟩
  refine List.forall_mem_cons.mpr ⟨ze_getR (by decide +kernel) fl_X3_18 rfl, ?_⟩
  refine List.forall_mem_cons.mpr ⟨ze_getR (by decide +kernel) fl_X3_93 rfl, ?_⟩
  refine List.forall_mem_cons.mpr ⟨ze_iload_n (k := 2) (by decide +kernel) rfl, ?_⟩
  refine List.forall_mem_cons.mpr ⟨ze_iaload (by decide +kernel), ?_⟩
  refine List.forall_mem_cons.mpr ⟨ze_aload_n (k := 0) (by decide +kernel) rfl, ?_⟩
  refine List.forall_mem_cons.mpr ⟨ze_getR (by decide +kernel) fl_X3_18 rfl, ?_⟩
  refine List.forall_mem_cons.mpr ⟨ze_getR (by decide +kernel) fl_X3_96 rfl, ?_⟩
  refine List.forall_mem_cons.mpr ⟨ze_iload_n (k := 2) (by decide +kernel) rfl, ?_⟩
  refine List.forall_mem_cons.mpr ⟨ze_iaload (by decide +kernel), ?_⟩
  refine List.forall_mem_cons.mpr ⟨ze_isub (by decide +kernel), ?_⟩
  refine List.forall_mem_cons.mpr ⟨ze_iadd (by decide +kernel), ?_⟩
  refine List.forall_mem_cons.mpr ⟨ze_iastore (by decide +kernel), ?_⟩
  refine List.forall_mem_cons.mpr ⟨ze_iload_n (k := 1) (by decide +kernel) rfl, ?_⟩
  refine List.forall_mem_cons.mpr ⟨ze_iconst (n := 1) (by decide +kernel) (by decide), ?_⟩
  refine List.forall_mem_cons.mpr ⟨ze_icmp_ne (off := 14) (by decide +kernel) (by decide), ?_⟩
  refine List.forall_mem_cons.mpr ⟨ze_aload_n (k := 0) (by decide +kernel) rfl, ?_⟩
  refine List.forall_mem_cons.mpr ⟨ze_getR (by decide +kernel) fl_X3_15 rfl, ?_⟩
  refine List.forall_mem_cons.mpr ⟨ze_bipush (n := 11) (by decide +kernel) (by decide), ?_⟩
  refine List.forall_mem_cons.mpr ⟨ze_iconst (n := 1) (by decide +kernel) (by decide), ?_⟩
  refine List.forall_mem_cons.mpr ⟨ze_iastore (by decide +kernel), ?_⟩
  refine List.forall_mem_cons.mpr ⟨ze_goto (off := 75) (by decide +kernel) (by decide), ?_⟩
  refine List.forall_mem_cons.mpr ⟨ze_aload_n (k := 0) (by decide +kernel) rfl, ?_⟩
  refine List.forall_mem_cons.mpr ⟨ze_getR (by decide +kernel) fl_X3_18 rfl, ?_⟩
  refine List.forall_mem_cons.mpr ⟨ze_iload_n (k := 2) (by decide +kernel) rfl, ?_⟩
  refine List.forall_mem_cons.mpr ⟨ze_callV (idx := 99) (by decide +kernel) ml_X3_99 mv_X8_renewalAt rfl, ?_⟩
  refine List.forall_mem_cons.mpr ⟨ze_istore_n (k := 3) (by decide +kernel) rfl (by decide), ?_⟩
  refine List.forall_mem_cons.mpr ⟨ze_aload_n (k := 0) (by decide +kernel) rfl, ?_⟩
  refine List.forall_mem_cons.mpr ⟨ze_getR (by decide +kernel) fl_X3_15 rfl, ?_⟩
  refine List.forall_mem_cons.mpr ⟨ze_bipush (n := 9) (by decide +kernel) (by decide), ?_⟩
  refine List.forall_mem_cons.mpr ⟨ze_dup2 (by decide +kernel), ?_⟩
  refine List.forall_mem_cons.mpr ⟨ze_iaload (by decide +kernel), ?_⟩
  refine List.forall_mem_cons.mpr ⟨ze_aload_n (k := 0) (by decide +kernel) rfl, ?_⟩
  refine List.forall_mem_cons.mpr ⟨ze_getR (by decide +kernel) fl_X3_9 rfl, ?_⟩
  refine List.forall_mem_cons.mpr ⟨ze_bipush (n := 13) (by decide +kernel) (by decide), ?_⟩
  refine List.forall_mem_cons.mpr ⟨ze_iaload (by decide +kernel), ?_⟩
  refine List.forall_mem_cons.mpr ⟨ze_iadd (by decide +kernel), ?_⟩
  refine List.forall_mem_cons.mpr ⟨ze_iastore (by decide +kernel), ?_⟩
  refine List.forall_mem_cons.mpr ⟨ze_aload_n (k := 0) (by decide +kernel) rfl, ?_⟩
  refine List.forall_mem_cons.mpr ⟨ze_getR (by decide +kernel) fl_X3_15 rfl, ?_⟩
  refine List.forall_mem_cons.mpr ⟨ze_iconst (n := 2) (by decide +kernel) (by decide), ?_⟩
  refine List.forall_mem_cons.mpr ⟨ze_aload_n (k := 0) (by decide +kernel) rfl, ?_⟩
  refine List.forall_mem_cons.mpr ⟨ze_getR (by decide +kernel) fl_X3_18 rfl, ?_⟩
  refine List.forall_mem_cons.mpr ⟨ze_aload_n (k := 0) (by decide +kernel) rfl, ?_⟩
  refine List.forall_mem_cons.mpr ⟨ze_getR (by decide +kernel) fl_X3_15 rfl, ?_⟩
  refine List.forall_mem_cons.mpr ⟨ze_bipush (n := 25) (by decide +kernel) (by decide), ?_⟩
  refine List.forall_mem_cons.mpr ⟨ze_aload_n (k := 0) (by decide +kernel) rfl, ?_⟩
  refine List.forall_mem_cons.mpr ⟨ze_callV (idx := 64) (by decide +kernel) ml_X3_64 mv_X3_here rfl, ?_⟩
  refine List.forall_mem_cons.mpr ⟨ze_iadd (by decide +kernel), ?_⟩
  refine List.forall_mem_cons.mpr ⟨ze_iaload (by decide +kernel), ?_⟩
  refine List.forall_mem_cons.mpr ⟨ze_callV (idx := 102) (by decide +kernel) ml_X3_102 mv_X8_couponAt rfl, ?_⟩
  refine List.forall_mem_cons.mpr ⟨ze_iastore (by decide +kernel), ?_⟩
  refine List.forall_mem_cons.mpr ⟨ze_aload_n (k := 0) (by decide +kernel) rfl, ?_⟩
  refine List.forall_mem_cons.mpr ⟨ze_getR (by decide +kernel) fl_X3_15 rfl, ?_⟩
  refine List.forall_mem_cons.mpr ⟨ze_iconst (n := 3) (by decide +kernel) (by decide), ?_⟩
  refine List.forall_mem_cons.mpr ⟨ze_dup2 (by decide +kernel), ?_⟩
  refine List.forall_mem_cons.mpr ⟨ze_iaload (by decide +kernel), ?_⟩
  refine List.forall_mem_cons.mpr ⟨ze_iconst (n := 1) (by decide +kernel) (by decide), ?_⟩
  refine List.forall_mem_cons.mpr ⟨ze_isub (by decide +kernel), ?_⟩
  refine List.forall_mem_cons.mpr ⟨ze_iastore (by decide +kernel), ?_⟩
  refine List.forall_mem_cons.mpr ⟨ze_aload_n (k := 0) (by decide +kernel) rfl, ?_⟩
  refine List.forall_mem_cons.mpr ⟨ze_getR (by decide +kernel) fl_X3_15 rfl, ?_⟩
  refine List.forall_mem_cons.mpr ⟨ze_bipush (n := 10) (by decide +kernel) (by decide), ?_⟩
  refine List.forall_mem_cons.mpr ⟨ze_dup2 (by decide +kernel), ?_⟩
  refine List.forall_mem_cons.mpr ⟨ze_iaload (by decide +kernel), ?_⟩
  refine List.forall_mem_cons.mpr ⟨ze_iconst (n := 1) (by decide +kernel) (by decide), ?_⟩
  refine List.forall_mem_cons.mpr ⟨ze_iadd (by decide +kernel), ?_⟩
  refine List.forall_mem_cons.mpr ⟨ze_iastore (by decide +kernel), ?_⟩
  refine List.forall_mem_cons.mpr ⟨ze_aload_n (k := 0) (by decide +kernel) rfl, ?_⟩
  refine List.forall_mem_cons.mpr ⟨ze_getR (by decide +kernel) fl_X3_15 rfl, ?_⟩
  refine List.forall_mem_cons.mpr ⟨ze_bipush (n := 6) (by decide +kernel) (by decide), ?_⟩
  refine List.forall_mem_cons.mpr ⟨ze_dup2 (by decide +kernel), ?_⟩
  refine List.forall_mem_cons.mpr ⟨ze_iaload (by decide +kernel), ?_⟩
  refine List.forall_mem_cons.mpr ⟨ze_iload_n (k := 3) (by decide +kernel) rfl, ?_⟩
  refine List.forall_mem_cons.mpr ⟨ze_iadd (by decide +kernel), ?_⟩
  refine List.forall_mem_cons.mpr ⟨ze_iastore (by decide +kernel), ?_⟩
  refine List.forall_mem_cons.mpr ⟨ze_iload_n (k := 3) (by decide +kernel) rfl, ?_⟩
  refine List.forall_mem_cons.mpr ⟨ze_iret (by decide +kernel) rfl, ?_⟩
  exact fun _ h => absurd h List.not_mem_nil
theorem vX3_settleNotice {l : Launch} {G : GT} {d : Nat} {av : List Value} {Q : Po} {σ : Mm} (cs : List (Nat × List Nat)) (k : Nat) (h : vc l G d mX3_settleNotice TX3_settleNotice Q cs k TX3_settleNotice (lv_args 0 av) [] σ) (hlen : (lg_sl av).length ≤ mX3_settleNotice.2.2.1 := by exact Nat.le_of_ble_eq_true rfl) : MW l G d mX3_settleNotice av σ Q := mw_vc TX3_settleNotice_ok mc_X3_settleNotice rfl hlen cs k rfl h
theorem wX3_settleNotice {l : Launch} {G : GT} {d : Nat} {Q : Po} {pc : Nat} {lv : Lv} {st : List Value} {σ : Mm} (cs : List (Nat × List Nat)) (k : Nat) (h : vc l G d mX3_settleNotice TX3_settleNotice Q cs k (drp TX3_settleNotice pc) lv st σ) (hpc : hdp (drp TX3_settleNotice pc) = pc := by rfl) : Wp l G d mX3_settleNotice pc lv st σ Q := wp_vc TX3_settleNotice_ok cs k hpc h
def TX3_takeNoticeBack : List In := [(0, 1, zt_aload 0), (1, 4, zt_getR 12 1), (4, 5, zt_ic 4), (5, 6, zt_iaload), (6, 9, zt_if_ne 12), (9, 11, zt_ic (-3)), (11, 12, zt_iret), (12, 13, zt_aload 0), (13, 16, zt_getR 12 1), (16, 17, zt_ic 5), (17, 18, zt_iaload), (18, 19, zt_istore 1), (19, 20, zt_aload 0), (20, 23, zt_getR 12 1), (23, 24, zt_ic 4), (24, 25, zt_ic 0), (25, 26, zt_iastore), (26, 27, zt_aload 0), (27, 30, zt_getR 12 1), (30, 31, zt_ic 5), (31, 32, zt_ic 0), (32, 33, zt_iastore), (33, 34, zt_iload 1), (34, 35, zt_iret)]
theorem TX3_takeNoticeBack_ok : ∀ i ∈ TX3_takeNoticeBack, Ent mX3_takeNoticeBack i := by
  refine List.forall_mem_cons.mpr ⟨ze_aload_n (k := 0) (by decide +kernel) rfl, ?_⟩
  refine List.forall_mem_cons.mpr ⟨ze_getR (by decide +kernel) fl_X3_15 rfl, ?_⟩
  refine List.forall_mem_cons.mpr ⟨ze_iconst (n := 4) (by decide +kernel) (by decide), ?_⟩
  refine List.forall_mem_cons.mpr ⟨ze_iaload (by decide +kernel), ?_⟩
  refine List.forall_mem_cons.mpr ⟨ze_if_ne (off := 6) (by decide +kernel) (by decide), ?_⟩
  refine List.forall_mem_cons.mpr ⟨ze_bipush (n := -3) (by decide +kernel) (by decide), ?_⟩
  refine List.forall_mem_cons.mpr ⟨ze_iret (by decide +kernel) rfl, ?_⟩
  refine List.forall_mem_cons.mpr ⟨ze_aload_n (k := 0) (by decide +kernel) rfl, ?_⟩
  refine List.forall_mem_cons.mpr ⟨ze_getR (by decide +kernel) fl_X3_15 rfl, ?_⟩
  refine List.forall_mem_cons.mpr ⟨ze_iconst (n := 5) (by decide +kernel) (by decide), ?_⟩
  refine List.forall_mem_cons.mpr ⟨ze_iaload (by decide +kernel), ?_⟩
  refine List.forall_mem_cons.mpr ⟨ze_istore_n (k := 1) (by decide +kernel) rfl (by decide), ?_⟩
  refine List.forall_mem_cons.mpr ⟨ze_aload_n (k := 0) (by decide +kernel) rfl, ?_⟩
  refine List.forall_mem_cons.mpr ⟨ze_getR (by decide +kernel) fl_X3_15 rfl, ?_⟩
  refine List.forall_mem_cons.mpr ⟨ze_iconst (n := 4) (by decide +kernel) (by decide), ?_⟩
  refine List.forall_mem_cons.mpr ⟨ze_iconst (n := 0) (by decide +kernel) (by decide), ?_⟩
  refine List.forall_mem_cons.mpr ⟨ze_iastore (by decide +kernel), ?_⟩
  refine List.forall_mem_cons.mpr ⟨ze_aload_n (k := 0) (by decide +kernel) rfl, ?_⟩
  refine List.forall_mem_cons.mpr ⟨ze_getR (by decide +kernel) fl_X3_15 rfl, ?_⟩
  refine List.forall_mem_cons.mpr ⟨ze_iconst (n := 5) (by decide +kernel) (by decide), ?_⟩
  refine List.forall_mem_cons.mpr ⟨ze_iconst (n := 0) (by decide +kernel) (by decide), ?_⟩
  refine List.forall_mem_cons.mpr ⟨ze_iastore (by decide +kernel), ?_⟩
  refine List.forall_mem_cons.mpr ⟨ze_iload_n (k := 1) (by decide +kernel) rfl, ?_⟩
  refine List.forall_mem_cons.mpr ⟨ze_iret (by decide +kernel) rfl, ?_⟩
  exact fun _ h => absurd h List.not_mem_nil
theorem vX3_takeNoticeBack {l : Launch} {G : GT} {d : Nat} {av : List Value} {Q : Po} {σ : Mm} (cs : List (Nat × List Nat)) (k : Nat) (h : vc l G d mX3_takeNoticeBack TX3_takeNoticeBack Q cs k TX3_takeNoticeBack (lv_args 0 av) [] σ) (hlen : (lg_sl av).length ≤ mX3_takeNoticeBack.2.2.1 := by exact Nat.le_of_ble_eq_true rfl) : MW l G d mX3_takeNoticeBack av σ Q := mw_vc TX3_takeNoticeBack_ok mc_X3_takeNoticeBack rfl hlen cs k rfl h
theorem wX3_takeNoticeBack {l : Launch} {G : GT} {d : Nat} {Q : Po} {pc : Nat} {lv : Lv} {st : List Value} {σ : Mm} (cs : List (Nat × List Nat)) (k : Nat) (h : vc l G d mX3_takeNoticeBack TX3_takeNoticeBack Q cs k (drp TX3_takeNoticeBack pc) lv st σ) (hpc : hdp (drp TX3_takeNoticeBack pc) = pc := by rfl) : Wp l G d mX3_takeNoticeBack pc lv st σ Q := wp_vc TX3_takeNoticeBack_ok cs k hpc h
def TX3_tellInstalment : List In := [(0, 1, zt_iload 1), (1, 2, zt_aload 0), (2, 5, zt_getR 12 1), (5, 6, zt_ic 0), (6, 7, zt_iaload), (7, 10, zt_icmp_le 20), (10, 11, zt_iload 1), (11, 12, zt_aload 0), (12, 15, zt_getR 12 0), (15, 16, zt_ic 1), (16, 17, zt_iaload), (17, 20, zt_icmp_lt 22), (20, 21, zt_ic (-1)), (21, 22, zt_iret), (22, 23, zt_iload 2), (23, 26, zt_if_lt 33), (26, 27, zt_iload 2), (27, 30, zt_ic 9999), (30, 33, zt_icmp_le 36), (33, 35, zt_ic (-2)), (35, 36, zt_iret), (36, 37, zt_aload 0), (37, 40, zt_getR 12 1), (40, 42, zt_ic 12), (42, 43, zt_iload 1), (43, 44, zt_iadd), (44, 45, zt_iaload), (45, 46, zt_istore 3), (46, 47, zt_iload 3), (47, 48, zt_iload 2), (48, 51, zt_icmp_ne 54), (51, 53, zt_ic (-3)), (53, 54, zt_iret), (54, 55, zt_aload 0), (55, 58, zt_getR 12 1), (58, 60, zt_ic 12), (60, 61, zt_iload 1), (61, 62, zt_iadd), (62, 63, zt_iload 2), (63, 64, zt_iastore), (64, 65, zt_aload 0), (65, 66, zt_iload 1), (66, 69, zt_putI 12 3), (69, 70, zt_iload 3), (70, 71, zt_iret)]
theorem TX3_tellInstalment_ok : ∀ i ∈ TX3_tellInstalment, Ent mX3_tellInstalment i := by
  refine List.forall_mem_cons.mpr ⟨ze_iload_n (k := 1) (by decide +kernel) rfl, ?_⟩
  refine List.forall_mem_cons.mpr ⟨ze_aload_n (k := 0) (by decide +kernel) rfl, ?_⟩
  refine List.forall_mem_cons.mpr ⟨ze_getR (by decide +kernel) fl_X3_15 rfl, ?_⟩
  refine List.forall_mem_cons.mpr ⟨ze_iconst (n := 0) (by decide +kernel) (by decide), ?_⟩
  refine List.forall_mem_cons.mpr ⟨ze_iaload (by decide +kernel), ?_⟩
  refine List.forall_mem_cons.mpr ⟨ze_icmp_le (off := 13) (by decide +kernel) (by decide), ?_⟩
  refine List.forall_mem_cons.mpr ⟨ze_iload_n (k := 1) (by decide +kernel) rfl, ?_⟩
  refine List.forall_mem_cons.mpr ⟨ze_aload_n (k := 0) (by decide +kernel) rfl, ?_⟩
  refine List.forall_mem_cons.mpr ⟨ze_getR (by decide +kernel) fl_X3_9 rfl, ?_⟩
  refine List.forall_mem_cons.mpr ⟨ze_iconst (n := 1) (by decide +kernel) (by decide), ?_⟩
  refine List.forall_mem_cons.mpr ⟨ze_iaload (by decide +kernel), ?_⟩
  refine List.forall_mem_cons.mpr ⟨ze_icmp_lt (off := 5) (by decide +kernel) (by decide), ?_⟩
  refine List.forall_mem_cons.mpr ⟨ze_iconst (n := -1) (by decide +kernel) (by decide), ?_⟩
  refine List.forall_mem_cons.mpr ⟨ze_iret (by decide +kernel) rfl, ?_⟩
  refine List.forall_mem_cons.mpr ⟨ze_iload_n (k := 2) (by decide +kernel) rfl, ?_⟩
  refine List.forall_mem_cons.mpr ⟨ze_if_lt (off := 10) (by decide +kernel) (by decide), ?_⟩
  refine List.forall_mem_cons.mpr ⟨ze_iload_n (k := 2) (by decide +kernel) rfl, ?_⟩
  refine List.forall_mem_cons.mpr ⟨ze_sipush (n := 9999) (by decide +kernel) (by decide), ?_⟩
  refine List.forall_mem_cons.mpr ⟨ze_icmp_le (off := 6) (by decide +kernel) (by decide), ?_⟩
  refine List.forall_mem_cons.mpr ⟨ze_bipush (n := -2) (by decide +kernel) (by decide), ?_⟩
  refine List.forall_mem_cons.mpr ⟨ze_iret (by decide +kernel) rfl, ?_⟩
  refine List.forall_mem_cons.mpr ⟨ze_aload_n (k := 0) (by decide +kernel) rfl, ?_⟩
  refine List.forall_mem_cons.mpr ⟨ze_getR (by decide +kernel) fl_X3_15 rfl, ?_⟩
  refine List.forall_mem_cons.mpr ⟨ze_bipush (n := 12) (by decide +kernel) (by decide), ?_⟩
  refine List.forall_mem_cons.mpr ⟨ze_iload_n (k := 1) (by decide +kernel) rfl, ?_⟩
  refine List.forall_mem_cons.mpr ⟨ze_iadd (by decide +kernel), ?_⟩
  refine List.forall_mem_cons.mpr ⟨ze_iaload (by decide +kernel), ?_⟩
  refine List.forall_mem_cons.mpr ⟨ze_istore_n (k := 3) (by decide +kernel) rfl (by decide), ?_⟩
  refine List.forall_mem_cons.mpr ⟨ze_iload_n (k := 3) (by decide +kernel) rfl, ?_⟩
  refine List.forall_mem_cons.mpr ⟨ze_iload_n (k := 2) (by decide +kernel) rfl, ?_⟩
  refine List.forall_mem_cons.mpr ⟨ze_icmp_ne (off := 6) (by decide +kernel) (by decide), ?_⟩
  refine List.forall_mem_cons.mpr ⟨ze_bipush (n := -3) (by decide +kernel) (by decide), ?_⟩
  refine List.forall_mem_cons.mpr ⟨ze_iret (by decide +kernel) rfl, ?_⟩
  refine List.forall_mem_cons.mpr ⟨ze_aload_n (k := 0) (by decide +kernel) rfl, ?_⟩
  refine List.forall_mem_cons.mpr ⟨ze_getR (by decide +kernel) fl_X3_15 rfl, ?_⟩
  refine List.forall_mem_cons.mpr ⟨ze_bipush (n := 12) (by decide +kernel) (by decide), ?_⟩
  refine List.forall_mem_cons.mpr ⟨ze_iload_n (k := 1) (by decide +kernel) rfl, ?_⟩
  refine List.forall_mem_cons.mpr ⟨ze_iadd (by decide +kernel), ?_⟩
  refine List.forall_mem_cons.mpr ⟨ze_iload_n (k := 2) (by decide +kernel) rfl, ?_⟩
  refine List.forall_mem_cons.mpr ⟨ze_iastore (by decide +kernel), ?_⟩
  refine List.forall_mem_cons.mpr ⟨ze_aload_n (k := 0) (by decide +kernel) rfl, ?_⟩
  refine List.forall_mem_cons.mpr ⟨ze_iload_n (k := 1) (by decide +kernel) rfl, ?_⟩
  refine List.forall_mem_cons.mpr ⟨ze_putI (by decide +kernel) fl_X3_32 ⟨_, _, _, rfl, rfl, by decide +kernel⟩ rfl, ?_⟩
  refine List.forall_mem_cons.mpr ⟨ze_iload_n (k := 3) (by decide +kernel) rfl, ?_⟩
  refine List.forall_mem_cons.mpr ⟨ze_iret (by decide +kernel) rfl, ?_⟩
  exact fun _ h => absurd h List.not_mem_nil
theorem vX3_tellInstalment {l : Launch} {G : GT} {d : Nat} {av : List Value} {Q : Po} {σ : Mm} (cs : List (Nat × List Nat)) (k : Nat) (h : vc l G d mX3_tellInstalment TX3_tellInstalment Q cs k TX3_tellInstalment (lv_args 0 av) [] σ) (hlen : (lg_sl av).length ≤ mX3_tellInstalment.2.2.1 := by exact Nat.le_of_ble_eq_true rfl) : MW l G d mX3_tellInstalment av σ Q := mw_vc TX3_tellInstalment_ok mc_X3_tellInstalment rfl hlen cs k rfl h
theorem wX3_tellInstalment {l : Launch} {G : GT} {d : Nat} {Q : Po} {pc : Nat} {lv : Lv} {st : List Value} {σ : Mm} (cs : List (Nat × List Nat)) (k : Nat) (h : vc l G d mX3_tellInstalment TX3_tellInstalment Q cs k (drp TX3_tellInstalment pc) lv st σ) (hpc : hdp (drp TX3_tellInstalment pc) = pc := by rfl) : Wp l G d mX3_tellInstalment pc lv st σ Q := wp_vc TX3_tellInstalment_ok cs k hpc h
def TX3_tellRate : List In := [(0, 1, zt_iload 1), (1, 2, zt_aload 0), (2, 5, zt_getR 12 1), (5, 6, zt_ic 0), (6, 7, zt_iaload), (7, 10, zt_icmp_lt 20), (10, 11, zt_iload 1), (11, 12, zt_aload 0), (12, 15, zt_getR 12 0), (15, 16, zt_ic 1), (16, 17, zt_iaload), (17, 20, zt_icmp_lt 22), (20, 21, zt_ic (-1)), (21, 22, zt_iret), (22, 23, zt_iload 2), (23, 24, zt_aload 0), (24, 27, zt_getR 12 1), (27, 28, zt_ic 1), (28, 29, zt_iaload), (29, 32, zt_icmp_lt 51), (32, 33, zt_iload 2), (33, 34, zt_aload 0), (34, 37, zt_getR 12 1), (37, 38, zt_ic 1), (38, 39, zt_iaload), (39, 40, zt_iload 1), (40, 41, zt_iadd), (41, 42, zt_aload 0), (42, 45, zt_getR 12 1), (45, 46, zt_ic 0), (46, 47, zt_iaload), (47, 48, zt_isub), (48, 51, zt_icmp_le 53), (51, 52, zt_ic (-1)), (52, 53, zt_iret), (53, 54, zt_iload 3), (54, 57, zt_if_lt 64), (57, 58, zt_iload 3), (58, 61, zt_ic 999), (61, 64, zt_icmp_le 67), (64, 66, zt_ic (-2)), (66, 67, zt_iret), (67, 69, zt_ic 25), (69, 70, zt_iload 1), (70, 71, zt_iload 2), (71, 74, zt_callS mX8_nodeOf 2), (74, 75, zt_iadd), (75, 77, zt_istore 4), (77, 78, zt_aload 0), (78, 81, zt_getR 12 1), (81, 83, zt_iload 4), (83, 84, zt_iaload), (84, 86, zt_istore 5), (86, 88, zt_iload 5), (88, 89, zt_iload 3), (89, 92, zt_icmp_ne 95), (92, 94, zt_ic (-3)), (94, 95, zt_iret), (95, 96, zt_aload 0), (96, 99, zt_getR 12 1), (99, 101, zt_iload 4), (101, 102, zt_iload 3), (102, 103, zt_iastore), (103, 104, zt_aload 0), (104, 105, zt_iload 1), (105, 108, zt_putI 12 3), (108, 110, zt_iload 5), (110, 111, zt_iret)]
theorem TX3_tellRate_ok : ∀ i ∈ TX3_tellRate, Ent mX3_tellRate i := by
  refine List.forall_mem_cons.mpr ⟨ze_iload_n (k := 1) (by decide +kernel) rfl, ?_⟩
  refine List.forall_mem_cons.mpr ⟨ze_aload_n (k := 0) (by decide +kernel) rfl, ?_⟩
  refine List.forall_mem_cons.mpr ⟨ze_getR (by decide +kernel) fl_X3_15 rfl, ?_⟩
  refine List.forall_mem_cons.mpr ⟨ze_iconst (n := 0) (by decide +kernel) (by decide), ?_⟩
  refine List.forall_mem_cons.mpr ⟨ze_iaload (by decide +kernel), ?_⟩
  refine List.forall_mem_cons.mpr ⟨ze_icmp_lt (off := 13) (by decide +kernel) (by decide), ?_⟩
  refine List.forall_mem_cons.mpr ⟨ze_iload_n (k := 1) (by decide +kernel) rfl, ?_⟩
  refine List.forall_mem_cons.mpr ⟨ze_aload_n (k := 0) (by decide +kernel) rfl, ?_⟩
  refine List.forall_mem_cons.mpr ⟨ze_getR (by decide +kernel) fl_X3_9 rfl, ?_⟩
  refine List.forall_mem_cons.mpr ⟨ze_iconst (n := 1) (by decide +kernel) (by decide), ?_⟩
  refine List.forall_mem_cons.mpr ⟨ze_iaload (by decide +kernel), ?_⟩
  refine List.forall_mem_cons.mpr ⟨ze_icmp_lt (off := 5) (by decide +kernel) (by decide), ?_⟩
  refine List.forall_mem_cons.mpr ⟨ze_iconst (n := -1) (by decide +kernel) (by decide), ?_⟩
  refine List.forall_mem_cons.mpr ⟨ze_iret (by decide +kernel) rfl, ?_⟩
  refine List.forall_mem_cons.mpr ⟨ze_iload_n (k := 2) (by decide +kernel) rfl, ?_⟩
  refine List.forall_mem_cons.mpr ⟨ze_aload_n (k := 0) (by decide +kernel) rfl, ?_⟩
  refine List.forall_mem_cons.mpr ⟨ze_getR (by decide +kernel) fl_X3_15 rfl, ?_⟩
  refine List.forall_mem_cons.mpr ⟨ze_iconst (n := 1) (by decide +kernel) (by decide), ?_⟩
  refine List.forall_mem_cons.mpr ⟨ze_iaload (by decide +kernel), ?_⟩
  refine List.forall_mem_cons.mpr ⟨ze_icmp_lt (off := 22) (by decide +kernel) (by decide), ?_⟩
  refine List.forall_mem_cons.mpr ⟨ze_iload_n (k := 2) (by decide +kernel) rfl, ?_⟩
  refine List.forall_mem_cons.mpr ⟨ze_aload_n (k := 0) (by decide +kernel) rfl, ?_⟩
  refine List.forall_mem_cons.mpr ⟨ze_getR (by decide +kernel) fl_X3_15 rfl, ?_⟩
  refine List.forall_mem_cons.mpr ⟨ze_iconst (n := 1) (by decide +kernel) (by decide), ?_⟩
  refine List.forall_mem_cons.mpr ⟨ze_iaload (by decide +kernel), ?_⟩
  refine List.forall_mem_cons.mpr ⟨ze_iload_n (k := 1) (by decide +kernel) rfl, ?_⟩
  refine List.forall_mem_cons.mpr ⟨ze_iadd (by decide +kernel), ?_⟩
  refine List.forall_mem_cons.mpr ⟨ze_aload_n (k := 0) (by decide +kernel) rfl, ?_⟩
  refine List.forall_mem_cons.mpr ⟨ze_getR (by decide +kernel) fl_X3_15 rfl, ?_⟩
  refine List.forall_mem_cons.mpr ⟨ze_iconst (n := 0) (by decide +kernel) (by decide), ?_⟩
  refine List.forall_mem_cons.mpr ⟨ze_iaload (by decide +kernel), ?_⟩
  refine List.forall_mem_cons.mpr ⟨ze_isub (by decide +kernel), ?_⟩
  refine List.forall_mem_cons.mpr ⟨ze_icmp_le (off := 5) (by decide +kernel) (by decide), ?_⟩
  refine List.forall_mem_cons.mpr ⟨ze_iconst (n := -1) (by decide +kernel) (by decide), ?_⟩
  refine List.forall_mem_cons.mpr ⟨ze_iret (by decide +kernel) rfl, ?_⟩
  refine List.forall_mem_cons.mpr ⟨ze_iload_n (k := 3) (by decide +kernel) rfl, ?_⟩
  refine List.forall_mem_cons.mpr ⟨ze_if_lt (off := 10) (by decide +kernel) (by decide), ?_⟩
  refine List.forall_mem_cons.mpr ⟨ze_iload_n (k := 3) (by decide +kernel) rfl, ?_⟩
  refine List.forall_mem_cons.mpr ⟨ze_sipush (n := 999) (by decide +kernel) (by decide), ?_⟩
  refine List.forall_mem_cons.mpr ⟨ze_icmp_le (off := 6) (by decide +kernel) (by decide), ?_⟩
  refine List.forall_mem_cons.mpr ⟨ze_bipush (n := -2) (by decide +kernel) (by decide), ?_⟩
  refine List.forall_mem_cons.mpr ⟨ze_iret (by decide +kernel) rfl, ?_⟩
  refine List.forall_mem_cons.mpr ⟨ze_bipush (n := 25) (by decide +kernel) (by decide), ?_⟩
  refine List.forall_mem_cons.mpr ⟨ze_iload_n (k := 1) (by decide +kernel) rfl, ?_⟩
  refine List.forall_mem_cons.mpr ⟨ze_iload_n (k := 2) (by decide +kernel) rfl, ?_⟩
  refine List.forall_mem_cons.mpr ⟨ze_callS (idx := 78) (by decide +kernel) ml_X3_78 ms_X8_nodeOf, ?_⟩
  refine List.forall_mem_cons.mpr ⟨ze_iadd (by decide +kernel), ?_⟩
  refine List.forall_mem_cons.mpr ⟨ze_istore (by decide +kernel) (by decide), ?_⟩
  refine List.forall_mem_cons.mpr ⟨ze_aload_n (k := 0) (by decide +kernel) rfl, ?_⟩
  refine List.forall_mem_cons.mpr ⟨ze_getR (by decide +kernel) fl_X3_15 rfl, ?_⟩
  refine List.forall_mem_cons.mpr ⟨ze_iload (by decide +kernel), ?_⟩
  refine List.forall_mem_cons.mpr ⟨ze_iaload (by decide +kernel), ?_⟩
  refine List.forall_mem_cons.mpr ⟨ze_istore (by decide +kernel) (by decide), ?_⟩
  refine List.forall_mem_cons.mpr ⟨ze_iload (by decide +kernel), ?_⟩
  refine List.forall_mem_cons.mpr ⟨ze_iload_n (k := 3) (by decide +kernel) rfl, ?_⟩
  refine List.forall_mem_cons.mpr ⟨ze_icmp_ne (off := 6) (by decide +kernel) (by decide), ?_⟩
  refine List.forall_mem_cons.mpr ⟨ze_bipush (n := -3) (by decide +kernel) (by decide), ?_⟩
  refine List.forall_mem_cons.mpr ⟨ze_iret (by decide +kernel) rfl, ?_⟩
  refine List.forall_mem_cons.mpr ⟨ze_aload_n (k := 0) (by decide +kernel) rfl, ?_⟩
  refine List.forall_mem_cons.mpr ⟨ze_getR (by decide +kernel) fl_X3_15 rfl, ?_⟩
  refine List.forall_mem_cons.mpr ⟨ze_iload (by decide +kernel), ?_⟩
  refine List.forall_mem_cons.mpr ⟨ze_iload_n (k := 3) (by decide +kernel) rfl, ?_⟩
  refine List.forall_mem_cons.mpr ⟨ze_iastore (by decide +kernel), ?_⟩
  refine List.forall_mem_cons.mpr ⟨ze_aload_n (k := 0) (by decide +kernel) rfl, ?_⟩
  refine List.forall_mem_cons.mpr ⟨ze_iload_n (k := 1) (by decide +kernel) rfl, ?_⟩
  refine List.forall_mem_cons.mpr ⟨ze_putI (by decide +kernel) fl_X3_32 ⟨_, _, _, rfl, rfl, by decide +kernel⟩ rfl, ?_⟩
  refine List.forall_mem_cons.mpr ⟨ze_iload (by decide +kernel), ?_⟩
  refine List.forall_mem_cons.mpr ⟨ze_iret (by decide +kernel) rfl, ?_⟩
  exact fun _ h => absurd h List.not_mem_nil
theorem vX3_tellRate {l : Launch} {G : GT} {d : Nat} {av : List Value} {Q : Po} {σ : Mm} (cs : List (Nat × List Nat)) (k : Nat) (h : vc l G d mX3_tellRate TX3_tellRate Q cs k TX3_tellRate (lv_args 0 av) [] σ) (hlen : (lg_sl av).length ≤ mX3_tellRate.2.2.1 := by exact Nat.le_of_ble_eq_true rfl) : MW l G d mX3_tellRate av σ Q := mw_vc TX3_tellRate_ok mc_X3_tellRate rfl hlen cs k rfl h
theorem wX3_tellRate {l : Launch} {G : GT} {d : Nat} {Q : Po} {pc : Nat} {lv : Lv} {st : List Value} {σ : Mm} (cs : List (Nat × List Nat)) (k : Nat) (h : vc l G d mX3_tellRate TX3_tellRate Q cs k (drp TX3_tellRate pc) lv st σ) (hpc : hdp (drp TX3_tellRate pc) = pc := by rfl) : Wp l G d mX3_tellRate pc lv st σ Q := wp_vc TX3_tellRate_ok cs k hpc h
def TX3_carryOut : List In := [(0, 1, zt_iload 1), (1, 4, zt_if_eq 31), (4, 5, zt_iload 1), (5, 6, zt_aload 0), (6, 9, zt_getR 12 2), (9, 10, zt_aload 0), (10, 13, zt_getR 12 1), (13, 14, zt_ic 0), (14, 15, zt_iaload), (15, 16, zt_aload 0), (16, 19, zt_getR 12 1), (19, 20, zt_ic 3), (20, 21, zt_iaload), (21, 24, zt_callV mX8_lastAllowed 2 16), (24, 27, zt_icmp_gt 31), (27, 28, zt_ic 1), (28, 31, zt_goto 32), (31, 32, zt_ic 0), (32, 33, zt_istore 2), (33, 34, zt_iload 2), (34, 37, zt_if_eq 46), (37, 38, zt_aload 0), (38, 41, zt_getR 12 1), (41, 42, zt_ic 4), (42, 43, zt_iaload), (43, 46, zt_if_eq 49), (46, 48, zt_ic (-3)), (48, 49, zt_iret), (49, 50, zt_aload 0), (50, 51, zt_iload 1), (51, 54, zt_callV mX3_giveNotice 1 12), (54, 55, zt_pop), (55, 56, zt_aload 0), (56, 57, zt_iload 1), (57, 58, zt_ic 1), (58, 61, zt_icmp_ne 65), (61, 62, zt_ic 2), (62, 65, zt_goto 66), (65, 66, zt_ic 3), (66, 69, zt_putI 12 3), (69, 70, zt_iload 1), (70, 71, zt_iret)]
theorem TX3_carryOut_ok : ∀ i ∈ TX3_carryOut, Ent mX3_carryOut i := by
  refine List.forall_mem_cons.mpr ⟨ze_iload_n (k := 1) (by decide +kernel) rfl, ?_⟩
  refine List.forall_mem_cons.mpr ⟨ze_if_eq (off := 30) (by decide +kernel) (by decide), ?_⟩
  refine List.forall_mem_cons.mpr ⟨ze_iload_n (k := 1) (by decide +kernel) rfl, ?_⟩
  refine List.forall_mem_cons.mpr ⟨ze_aload_n (k := 0) (by decide +kernel) rfl, ?_⟩
  refine List.forall_mem_cons.mpr ⟨ze_getR (by decide +kernel) fl_X3_18 rfl, ?_⟩
  refine List.forall_mem_cons.mpr ⟨ze_aload_n (k := 0) (by decide +kernel) rfl, ?_⟩
  refine List.forall_mem_cons.mpr ⟨ze_getR (by decide +kernel) fl_X3_15 rfl, ?_⟩
  refine List.forall_mem_cons.mpr ⟨ze_iconst (n := 0) (by decide +kernel) (by decide), ?_⟩
  refine List.forall_mem_cons.mpr ⟨ze_iaload (by decide +kernel), ?_⟩
  refine List.forall_mem_cons.mpr ⟨ze_aload_n (k := 0) (by decide +kernel) rfl, ?_⟩
  refine List.forall_mem_cons.mpr ⟨ze_getR (by decide +kernel) fl_X3_15 rfl, ?_⟩
  refine List.forall_mem_cons.mpr ⟨ze_iconst (n := 3) (by decide +kernel) (by decide), ?_⟩
  refine List.forall_mem_cons.mpr ⟨ze_iaload (by decide +kernel), ?_⟩
  refine List.forall_mem_cons.mpr ⟨ze_callV (idx := 90) (by decide +kernel) ml_X3_90 mv_X8_lastAllowed rfl, ?_⟩
  refine List.forall_mem_cons.mpr ⟨ze_icmp_gt (off := 7) (by decide +kernel) (by decide), ?_⟩
  refine List.forall_mem_cons.mpr ⟨ze_iconst (n := 1) (by decide +kernel) (by decide), ?_⟩
  refine List.forall_mem_cons.mpr ⟨ze_goto (off := 4) (by decide +kernel) (by decide), ?_⟩
  refine List.forall_mem_cons.mpr ⟨ze_iconst (n := 0) (by decide +kernel) (by decide), ?_⟩
  refine List.forall_mem_cons.mpr ⟨ze_istore_n (k := 2) (by decide +kernel) rfl (by decide), ?_⟩
  refine List.forall_mem_cons.mpr ⟨ze_iload_n (k := 2) (by decide +kernel) rfl, ?_⟩
  refine List.forall_mem_cons.mpr ⟨ze_if_eq (off := 12) (by decide +kernel) (by decide), ?_⟩
  refine List.forall_mem_cons.mpr ⟨ze_aload_n (k := 0) (by decide +kernel) rfl, ?_⟩
  refine List.forall_mem_cons.mpr ⟨ze_getR (by decide +kernel) fl_X3_15 rfl, ?_⟩
  refine List.forall_mem_cons.mpr ⟨ze_iconst (n := 4) (by decide +kernel) (by decide), ?_⟩
  refine List.forall_mem_cons.mpr ⟨ze_iaload (by decide +kernel), ?_⟩
  refine List.forall_mem_cons.mpr ⟨ze_if_eq (off := 6) (by decide +kernel) (by decide), ?_⟩
  refine List.forall_mem_cons.mpr ⟨ze_bipush (n := -3) (by decide +kernel) (by decide), ?_⟩
  refine List.forall_mem_cons.mpr ⟨ze_iret (by decide +kernel) rfl, ?_⟩
  refine List.forall_mem_cons.mpr ⟨ze_aload_n (k := 0) (by decide +kernel) rfl, ?_⟩
  refine List.forall_mem_cons.mpr ⟨ze_iload_n (k := 1) (by decide +kernel) rfl, ?_⟩
  refine List.forall_mem_cons.mpr ⟨ze_callV (idx := 40) (by decide +kernel) ml_X3_40 mv_X3_giveNotice rfl, ?_⟩
  refine List.forall_mem_cons.mpr ⟨ze_pop (by decide +kernel), ?_⟩
  refine List.forall_mem_cons.mpr ⟨ze_aload_n (k := 0) (by decide +kernel) rfl, ?_⟩
  refine List.forall_mem_cons.mpr ⟨ze_iload_n (k := 1) (by decide +kernel) rfl, ?_⟩
  refine List.forall_mem_cons.mpr ⟨ze_iconst (n := 1) (by decide +kernel) (by decide), ?_⟩
  refine List.forall_mem_cons.mpr ⟨ze_icmp_ne (off := 7) (by decide +kernel) (by decide), ?_⟩
  refine List.forall_mem_cons.mpr ⟨ze_iconst (n := 2) (by decide +kernel) (by decide), ?_⟩
  refine List.forall_mem_cons.mpr ⟨ze_goto (off := 4) (by decide +kernel) (by decide), ?_⟩
  refine List.forall_mem_cons.mpr ⟨ze_iconst (n := 3) (by decide +kernel) (by decide), ?_⟩
  refine List.forall_mem_cons.mpr ⟨ze_putI (by decide +kernel) fl_X3_32 ⟨_, _, _, rfl, rfl, by decide +kernel⟩ rfl, ?_⟩
  refine List.forall_mem_cons.mpr ⟨ze_iload_n (k := 1) (by decide +kernel) rfl, ?_⟩
  refine List.forall_mem_cons.mpr ⟨ze_iret (by decide +kernel) rfl, ?_⟩
  exact fun _ h => absurd h List.not_mem_nil
theorem vX3_carryOut {l : Launch} {G : GT} {d : Nat} {av : List Value} {Q : Po} {σ : Mm} (cs : List (Nat × List Nat)) (k : Nat) (h : vc l G d mX3_carryOut TX3_carryOut Q cs k TX3_carryOut (lv_args 0 av) [] σ) (hlen : (lg_sl av).length ≤ mX3_carryOut.2.2.1 := by exact Nat.le_of_ble_eq_true rfl) : MW l G d mX3_carryOut av σ Q := mw_vc TX3_carryOut_ok mc_X3_carryOut rfl hlen cs k rfl h
theorem wX3_carryOut {l : Launch} {G : GT} {d : Nat} {Q : Po} {pc : Nat} {lv : Lv} {st : List Value} {σ : Mm} (cs : List (Nat × List Nat)) (k : Nat) (h : vc l G d mX3_carryOut TX3_carryOut Q cs k (drp TX3_carryOut pc) lv st σ) (hpc : hdp (drp TX3_carryOut pc) = pc := by rfl) : Wp l G d mX3_carryOut pc lv st σ Q := wp_vc TX3_carryOut_ok cs k hpc h
def TX3_takeDeeds : List In := [(0, 1, zt_aload 0), (1, 4, zt_getR 12 1), (4, 5, zt_ic 0), (5, 6, zt_iaload), (6, 7, zt_istore 2), (7, 8, zt_aload 0), (8, 11, zt_getR 12 1), (11, 12, zt_ic 1), (12, 13, zt_iaload), (13, 14, zt_istore 3), (14, 15, zt_ic 0), (15, 17, zt_istore 4), (17, 18, zt_iload 2), (18, 20, zt_istore 5), (20, 22, zt_iload 5), (22, 23, zt_aload 0), (23, 26, zt_getR 12 0), (26, 27, zt_ic 1), (27, 28, zt_iaload), (28, 31, zt_icmp_ge 103), (31, 32, zt_iload 3), (32, 34, zt_istore 6), (34, 36, zt_iload 6), (36, 37, zt_iload 3), (37, 39, zt_iload 5), (39, 40, zt_iadd), (40, 41, zt_iload 2), (41, 42, zt_isub), (42, 45, zt_icmp_gt 97), (45, 46, zt_aload 1), (46, 49, zt_getR 15 2), (49, 51, zt_iload 5), (51, 53, zt_iload 6), (53, 56, zt_callS mX8_nodeOf 2), (56, 57, zt_iaload), (57, 59, zt_istore 7), (59, 61, zt_iload 7), (61, 62, zt_aload 0), (62, 65, zt_getR 12 1), (65, 67, zt_iload 5), (67, 69, zt_iload 6), (69, 72, zt_callS mX0_deedOf 3), (72, 75, zt_icmp_eq 91), (75, 76, zt_aload 0), (76, 79, zt_getR 12 1), (79, 81, zt_iload 5), (81, 83, zt_iload 6), (83, 85, zt_iload 7), (85, 88, zt_callS mX0_setDeed 4), (88, 91, zt_iinc 4 1), (91, 94, zt_iinc 6 1), (94, 97, zt_goto 34), (97, 100, zt_iinc 5 1), (100, 103, zt_goto 20), (103, 104, zt_aload 0), (104, 106, zt_iload 4), (106, 109, zt_putI 12 3), (109, 111, zt_iload 4), (111, 114, zt_if_ne 119), (114, 116, zt_ic (-3)), (116, 119, zt_goto 121), (119, 121, zt_iload 4), (121, 122, zt_iret)]
theorem TX3_takeDeeds_ok : ∀ i ∈ TX3_takeDeeds, Ent mX3_takeDeeds i := by
  refine List.forall_mem_cons.mpr ⟨ze_aload_n (k := 0) (by decide +kernel) rfl, ?_⟩
  refine List.forall_mem_cons.mpr ⟨ze_getR (by decide +kernel) fl_X3_15 rfl, ?_⟩
  refine List.forall_mem_cons.mpr ⟨ze_iconst (n := 0) (by decide +kernel) (by decide), ?_⟩
  refine List.forall_mem_cons.mpr ⟨ze_iaload (by decide +kernel), ?_⟩
  refine List.forall_mem_cons.mpr ⟨ze_istore_n (k := 2) (by decide +kernel) rfl (by decide), ?_⟩
  refine List.forall_mem_cons.mpr ⟨ze_aload_n (k := 0) (by decide +kernel) rfl, ?_⟩
  refine List.forall_mem_cons.mpr ⟨ze_getR (by decide +kernel) fl_X3_15 rfl, ?_⟩
  refine List.forall_mem_cons.mpr ⟨ze_iconst (n := 1) (by decide +kernel) (by decide), ?_⟩
  refine List.forall_mem_cons.mpr ⟨ze_iaload (by decide +kernel), ?_⟩
  refine List.forall_mem_cons.mpr ⟨ze_istore_n (k := 3) (by decide +kernel) rfl (by decide), ?_⟩
  refine List.forall_mem_cons.mpr ⟨ze_iconst (n := 0) (by decide +kernel) (by decide), ?_⟩
  refine List.forall_mem_cons.mpr ⟨ze_istore (by decide +kernel) (by decide), ?_⟩
  refine List.forall_mem_cons.mpr ⟨ze_iload_n (k := 2) (by decide +kernel) rfl, ?_⟩
  refine List.forall_mem_cons.mpr ⟨ze_istore (by decide +kernel) (by decide), ?_⟩
  refine List.forall_mem_cons.mpr ⟨ze_iload (by decide +kernel), ?_⟩
  refine List.forall_mem_cons.mpr ⟨ze_aload_n (k := 0) (by decide +kernel) rfl, ?_⟩
  refine List.forall_mem_cons.mpr ⟨ze_getR (by decide +kernel) fl_X3_9 rfl, ?_⟩
  refine List.forall_mem_cons.mpr ⟨ze_iconst (n := 1) (by decide +kernel) (by decide), ?_⟩
  refine List.forall_mem_cons.mpr ⟨ze_iaload (by decide +kernel), ?_⟩
  refine List.forall_mem_cons.mpr ⟨ze_icmp_ge (off := 75) (by decide +kernel) (by decide), ?_⟩
  refine List.forall_mem_cons.mpr ⟨ze_iload_n (k := 3) (by decide +kernel) rfl, ?_⟩
  refine List.forall_mem_cons.mpr ⟨ze_istore (by decide +kernel) (by decide), ?_⟩
  refine List.forall_mem_cons.mpr ⟨ze_iload (by decide +kernel), ?_⟩
  refine List.forall_mem_cons.mpr ⟨ze_iload_n (k := 3) (by decide +kernel) rfl, ?_⟩
  refine List.forall_mem_cons.mpr ⟨ze_iload (by decide +kernel), ?_⟩
  refine List.forall_mem_cons.mpr ⟨ze_iadd (by decide +kernel), ?_⟩
  refine List.forall_mem_cons.mpr ⟨ze_iload_n (k := 2) (by decide +kernel) rfl, ?_⟩
  refine List.forall_mem_cons.mpr ⟨ze_isub (by decide +kernel), ?_⟩
  refine List.forall_mem_cons.mpr ⟨ze_icmp_gt (off := 55) (by decide +kernel) (by decide), ?_⟩
  refine List.forall_mem_cons.mpr ⟨ze_aload_n (k := 1) (by decide +kernel) rfl, ?_⟩
  refine List.forall_mem_cons.mpr ⟨ze_getR (by decide +kernel) fl_X3_59 rfl, ?_⟩
  refine List.forall_mem_cons.mpr ⟨ze_iload (by decide +kernel), ?_⟩
  refine List.forall_mem_cons.mpr ⟨ze_iload (by decide +kernel), ?_⟩
  refine List.forall_mem_cons.mpr ⟨ze_callS (idx := 78) (by decide +kernel) ml_X3_78 ms_X8_nodeOf, ?_⟩
  refine List.forall_mem_cons.mpr ⟨ze_iaload (by decide +kernel), ?_⟩
  refine List.forall_mem_cons.mpr ⟨ze_istore (by decide +kernel) (by decide), ?_⟩
  refine List.forall_mem_cons.mpr ⟨ze_iload (by decide +kernel), ?_⟩
  refine List.forall_mem_cons.mpr ⟨ze_aload_n (k := 0) (by decide +kernel) rfl, ?_⟩
  refine List.forall_mem_cons.mpr ⟨ze_getR (by decide +kernel) fl_X3_15 rfl, ?_⟩
  refine List.forall_mem_cons.mpr ⟨ze_iload (by decide +kernel), ?_⟩
  refine List.forall_mem_cons.mpr ⟨ze_iload (by decide +kernel), ?_⟩
  refine List.forall_mem_cons.mpr ⟨ze_callS (idx := 74) (by decide +kernel) ml_X3_74 ms_X0_deedOf, ?_⟩
  refine List.forall_mem_cons.mpr ⟨ze_icmp_eq (off := 19) (by decide +kernel) (by decide), ?_⟩
  refine List.forall_mem_cons.mpr ⟨ze_aload_n (k := 0) (by decide +kernel) rfl, ?_⟩
  refine List.forall_mem_cons.mpr ⟨ze_getR (by decide +kernel) fl_X3_15 rfl, ?_⟩
  refine List.forall_mem_cons.mpr ⟨ze_iload (by decide +kernel), ?_⟩
  refine List.forall_mem_cons.mpr ⟨ze_iload (by decide +kernel), ?_⟩
  refine List.forall_mem_cons.mpr ⟨ze_iload (by decide +kernel), ?_⟩
  refine List.forall_mem_cons.mpr ⟨ze_callS (idx := 105) (by decide +kernel) ml_X3_105 ms_X0_setDeed, ?_⟩
  refine List.forall_mem_cons.mpr ⟨ze_iinc (n := 1) (by decide +kernel) (by decide) (by decide), ?_⟩
  refine List.forall_mem_cons.mpr ⟨ze_iinc (n := 1) (by decide +kernel) (by decide) (by decide), ?_⟩
  refine List.forall_mem_cons.mpr ⟨ze_goto (off := -60) (by decide +kernel) (by decide), ?_⟩
  refine List.forall_mem_cons.mpr ⟨ze_iinc (n := 1) (by decide +kernel) (by decide) (by decide), ?_⟩
  refine List.forall_mem_cons.mpr ⟨ze_goto (off := -80) (by decide +kernel) (by decide), ?_⟩
  refine List.forall_mem_cons.mpr ⟨ze_aload_n (k := 0) (by decide +kernel) rfl, ?_⟩
  refine List.forall_mem_cons.mpr ⟨ze_iload (by decide +kernel), ?_⟩
  refine List.forall_mem_cons.mpr ⟨ze_putI (by decide +kernel) fl_X3_32 ⟨_, _, _, rfl, rfl, by decide +kernel⟩ rfl, ?_⟩
  refine List.forall_mem_cons.mpr ⟨ze_iload (by decide +kernel), ?_⟩
  refine List.forall_mem_cons.mpr ⟨ze_if_ne (off := 8) (by decide +kernel) (by decide), ?_⟩
  refine List.forall_mem_cons.mpr ⟨ze_bipush (n := -3) (by decide +kernel) (by decide), ?_⟩
  refine List.forall_mem_cons.mpr ⟨ze_goto (off := 5) (by decide +kernel) (by decide), ?_⟩
  refine List.forall_mem_cons.mpr ⟨ze_iload (by decide +kernel), ?_⟩
  refine List.forall_mem_cons.mpr ⟨ze_iret (by decide +kernel) rfl, ?_⟩
  exact fun _ h => absurd h List.not_mem_nil
theorem vX3_takeDeeds {l : Launch} {G : GT} {d : Nat} {av : List Value} {Q : Po} {σ : Mm} (cs : List (Nat × List Nat)) (k : Nat) (h : vc l G d mX3_takeDeeds TX3_takeDeeds Q cs k TX3_takeDeeds (lv_args 0 av) [] σ) (hlen : (lg_sl av).length ≤ mX3_takeDeeds.2.2.1 := by exact Nat.le_of_ble_eq_true rfl) : MW l G d mX3_takeDeeds av σ Q := mw_vc TX3_takeDeeds_ok mc_X3_takeDeeds rfl hlen cs k rfl h
theorem wX3_takeDeeds {l : Launch} {G : GT} {d : Nat} {Q : Po} {pc : Nat} {lv : Lv} {st : List Value} {σ : Mm} (cs : List (Nat × List Nat)) (k : Nat) (h : vc l G d mX3_takeDeeds TX3_takeDeeds Q cs k (drp TX3_takeDeeds pc) lv st σ) (hpc : hdp (drp TX3_takeDeeds pc) = pc := by rfl) : Wp l G d mX3_takeDeeds pc lv st σ Q := wp_vc TX3_takeDeeds_ok cs k hpc h
def TX4_part : List In := [(0, 1, zt_iload 1), (1, 4, zt_if_lt 34), (4, 5, zt_iload 1), (5, 6, zt_aload 0), (6, 9, zt_getI 13 2), (9, 12, zt_icmp_ge 34), (12, 13, zt_iload 2), (13, 16, zt_if_lt 34), (16, 17, zt_iload 2), (17, 18, zt_ic 4), (18, 21, zt_icmp_ge 34), (21, 22, zt_aload 0), (22, 25, zt_getR 13 1), (25, 26, zt_iload 1), (26, 27, zt_ic 4), (27, 28, zt_imul), (28, 29, zt_iload 2), (29, 30, zt_iadd), (30, 31, zt_iaload), (31, 34, zt_goto 35), (34, 35, zt_ic (-1)), (35, 36, zt_iret)]
theorem TX4_part_ok : ∀ i ∈ TX4_part, Ent mX4_part i := by
  refine List.forall_mem_cons.mpr ⟨ze_iload_n (k := 1) (by decide +kernel) rfl, ?_⟩
  refine List.forall_mem_cons.mpr ⟨ze_if_lt (off := 33) (by decide +kernel) (by decide), ?_⟩
  refine List.forall_mem_cons.mpr ⟨ze_iload_n (k := 1) (by decide +kernel) rfl, ?_⟩
  refine List.forall_mem_cons.mpr ⟨ze_aload_n (k := 0) (by decide +kernel) rfl, ?_⟩
  refine List.forall_mem_cons.mpr ⟨ze_getI (by decide +kernel) fl_X4_31 rfl, ?_⟩
  refine List.forall_mem_cons.mpr ⟨ze_icmp_ge (off := 25) (by decide +kernel) (by decide), ?_⟩
  refine List.forall_mem_cons.mpr ⟨ze_iload_n (k := 2) (by decide +kernel) rfl, ?_⟩
  refine List.forall_mem_cons.mpr ⟨ze_if_lt (off := 21) (by decide +kernel) (by decide), ?_⟩
  refine List.forall_mem_cons.mpr ⟨ze_iload_n (k := 2) (by decide +kernel) rfl, ?_⟩
  refine List.forall_mem_cons.mpr ⟨ze_iconst (n := 4) (by decide +kernel) (by decide), ?_⟩
  refine List.forall_mem_cons.mpr ⟨ze_icmp_ge (off := 16) (by decide +kernel) (by decide), ?_⟩
  refine List.forall_mem_cons.mpr ⟨ze_aload_n (k := 0) (by decide +kernel) rfl, ?_⟩
  refine List.forall_mem_cons.mpr ⟨ze_getR (by decide +kernel) fl_X4_17 rfl, ?_⟩
  refine List.forall_mem_cons.mpr ⟨ze_iload_n (k := 1) (by decide +kernel) rfl, ?_⟩
  refine List.forall_mem_cons.mpr ⟨ze_iconst (n := 4) (by decide +kernel) (by decide), ?_⟩
  refine List.forall_mem_cons.mpr ⟨ze_imul (by decide +kernel), ?_⟩
  refine List.forall_mem_cons.mpr ⟨ze_iload_n (k := 2) (by decide +kernel) rfl, ?_⟩
  refine List.forall_mem_cons.mpr ⟨ze_iadd (by decide +kernel), ?_⟩
  refine List.forall_mem_cons.mpr ⟨ze_iaload (by decide +kernel), ?_⟩
  refine List.forall_mem_cons.mpr ⟨ze_goto (off := 4) (by decide +kernel) (by decide), ?_⟩
  refine List.forall_mem_cons.mpr ⟨ze_iconst (n := -1) (by decide +kernel) (by decide), ?_⟩
  refine List.forall_mem_cons.mpr ⟨ze_iret (by decide +kernel) rfl, ?_⟩
  exact fun _ h => absurd h List.not_mem_nil
theorem vX4_part {l : Launch} {G : GT} {d : Nat} {av : List Value} {Q : Po} {σ : Mm} (cs : List (Nat × List Nat)) (k : Nat) (h : vc l G d mX4_part TX4_part Q cs k TX4_part (lv_args 0 av) [] σ) (hlen : (lg_sl av).length ≤ mX4_part.2.2.1 := by exact Nat.le_of_ble_eq_true rfl) : MW l G d mX4_part av σ Q := mw_vc TX4_part_ok mc_X4_part rfl hlen cs k rfl h
theorem wX4_part {l : Launch} {G : GT} {d : Nat} {Q : Po} {pc : Nat} {lv : Lv} {st : List Value} {σ : Mm} (cs : List (Nat × List Nat)) (k : Nat) (h : vc l G d mX4_part TX4_part Q cs k (drp TX4_part pc) lv st σ) (hpc : hdp (drp TX4_part pc) = pc := by rfl) : Wp l G d mX4_part pc lv st σ Q := wp_vc TX4_part_ok cs k hpc h
def TX4_readStepNumbers : List In := [(0, 1, zt_aload 0), (1, 4, zt_getI 13 2), (4, 5, zt_ic 4), (5, 6, zt_imul), (6, 7, zt_istore 2), (7, 8, zt_aload 0), (8, 9, zt_dup), (9, 12, zt_getI 13 2), (12, 13, zt_ic 1), (13, 14, zt_iadd), (14, 17, zt_putI 13 2), (17, 18, zt_aload 0), (18, 21, zt_getR 13 1), (21, 22, zt_iload 2), (22, 23, zt_iload 2), (23, 24, zt_ic 4), (24, 25, zt_iadd), (25, 26, zt_ic (-1)), (26, 29, zt_callS mJ7_fill_fda19 4), (29, 30, zt_aload 0), (30, 33, zt_getR 13 1), (33, 34, zt_iload 2), (34, 35, zt_iload 1), (35, 36, zt_iastore), (36, 37, zt_iload 1), (37, 38, zt_ic 5), (38, 41, zt_icmp_ne 45), (41, 42, zt_ic 2), (42, 45, zt_goto 56), (45, 46, zt_iload 1), (46, 48, zt_ic 6), (48, 51, zt_icmp_ne 55), (51, 52, zt_ic 3), (52, 55, zt_goto 56), (55, 56, zt_ic 0), (56, 57, zt_istore 3), (57, 58, zt_ic 1), (58, 60, zt_istore 4), (60, 62, zt_iload 4), (62, 63, zt_iload 3), (63, 66, zt_icmp_gt 145), (66, 68, zt_iload 4), (68, 69, zt_ic 1), (69, 72, zt_icmp_le 107), (72, 73, zt_aload 0), (73, 76, zt_callV mX4_skipBlanks 0 13), (76, 77, zt_aload 0), (77, 80, zt_getR 13 4), (80, 81, zt_aload 0), (81, 84, zt_getI 13 5), (84, 87, zt_callV mX9_at 1 17), (87, 89, zt_ic 44), (89, 92, zt_icmp_eq 97), (92, 93, zt_aload 0), (93, 96, zt_getI 13 5), (96, 97, zt_iret), (97, 98, zt_aload 0), (98, 99, zt_dup), (99, 102, zt_getI 13 5), (102, 103, zt_ic 1), (103, 104, zt_iadd), (104, 107, zt_putI 13 5), (107, 108, zt_aload 0), (108, 109, zt_ic 0), (109, 112, zt_ic 9999), (112, 115, zt_callV mX4_readNumber 2 13), (115, 117, zt_istore 5), (117, 119, zt_iload 5), (119, 120, zt_ic (-1)), (120, 123, zt_icmp_eq 126), (123, 125, zt_iload 5), (125, 126, zt_iret), (126, 127, zt_aload 0), (127, 130, zt_getR 13 1), (130, 131, zt_iload 2), (131, 133, zt_iload 4), (133, 134, zt_iadd), (134, 135, zt_aload 0), (135, 138, zt_getI 13 6), (138, 139, zt_iastore), (139, 142, zt_iinc 4 1), (142, 145, zt_goto 60), (145, 146, zt_ic (-1)), (146, 147, zt_iret)]
theorem TX4_readStepNumbers_ok : ∀ i ∈ TX4_readStepNumbers, Ent mX4_readStepNumbers i := by
  refine List.forall_mem_cons.mpr ⟨ze_aload_n (k := 0) (by decide +kernel) rfl, ?_⟩
  refine List.forall_mem_cons.mpr ⟨ze_getI (by decide +kernel) fl_X4_31 rfl, ?_⟩
  refine List.forall_mem_cons.mpr ⟨ze_iconst (n := 4) (by decide +kernel) (by decide), ?_⟩
  refine List.forall_mem_cons.mpr ⟨ze_imul (by decide +kernel), ?_⟩
  refine List.forall_mem_cons.mpr ⟨ze_istore_n (k := 2) (by decide +kernel) rfl (by decide), ?_⟩
  refine List.forall_mem_cons.mpr ⟨ze_aload_n (k := 0) (by decide +kernel) rfl, ?_⟩
  refine List.forall_mem_cons.mpr ⟨ze_dup (by decide +kernel), ?_⟩
  refine List.forall_mem_cons.mpr ⟨ze_getI (by decide +kernel) fl_X4_31 rfl, ?_⟩
  refine List.forall_mem_cons.mpr ⟨ze_iconst (n := 1) (by decide +kernel) (by decide), ?_⟩
  refine List.forall_mem_cons.mpr ⟨ze_iadd (by decide +kernel), ?_⟩
  refine List.forall_mem_cons.mpr ⟨ze_putI (by decide +kernel) fl_X4_31 ⟨_, _, _, rfl, rfl, by decide +kernel⟩ rfl, ?_⟩
  refine List.forall_mem_cons.mpr ⟨ze_aload_n (k := 0) (by decide +kernel) rfl, ?_⟩
  refine List.forall_mem_cons.mpr ⟨ze_getR (by decide +kernel) fl_X4_17 rfl, ?_⟩
  refine List.forall_mem_cons.mpr ⟨ze_iload_n (k := 2) (by decide +kernel) rfl, ?_⟩
  refine List.forall_mem_cons.mpr ⟨ze_iload_n (k := 2) (by decide +kernel) rfl, ?_⟩
  refine List.forall_mem_cons.mpr ⟨ze_iconst (n := 4) (by decide +kernel) (by decide), ?_⟩
  refine List.forall_mem_cons.mpr ⟨ze_iadd (by decide +kernel), ?_⟩
  refine List.forall_mem_cons.mpr ⟨ze_iconst (n := -1) (by decide +kernel) (by decide), ?_⟩
  refine List.forall_mem_cons.mpr ⟨ze_callS (idx := 103) (by decide +kernel) ml_X4_103 ms_J7_fill_fda19, ?_⟩
  refine List.forall_mem_cons.mpr ⟨ze_aload_n (k := 0) (by decide +kernel) rfl, ?_⟩
  refine List.forall_mem_cons.mpr ⟨ze_getR (by decide +kernel) fl_X4_17 rfl, ?_⟩
  refine List.forall_mem_cons.mpr ⟨ze_iload_n (k := 2) (by decide +kernel) rfl, ?_⟩
  refine List.forall_mem_cons.mpr ⟨ze_iload_n (k := 1) (by decide +kernel) rfl, ?_⟩
  refine List.forall_mem_cons.mpr ⟨ze_iastore (by decide +kernel), ?_⟩
  refine List.forall_mem_cons.mpr ⟨ze_iload_n (k := 1) (by decide +kernel) rfl, ?_⟩
  refine List.forall_mem_cons.mpr ⟨ze_iconst (n := 5) (by decide +kernel) (by decide), ?_⟩
  refine List.forall_mem_cons.mpr ⟨ze_icmp_ne (off := 7) (by decide +kernel) (by decide), ?_⟩
  refine List.forall_mem_cons.mpr ⟨ze_iconst (n := 2) (by decide +kernel) (by decide), ?_⟩
  refine List.forall_mem_cons.mpr ⟨ze_goto (off := 14) (by decide +kernel) (by decide), ?_⟩
  refine List.forall_mem_cons.mpr ⟨ze_iload_n (k := 1) (by decide +kernel) rfl, ?_⟩
  refine List.forall_mem_cons.mpr ⟨ze_bipush (n := 6) (by decide +kernel) (by decide), ?_⟩
  refine List.forall_mem_cons.mpr ⟨ze_icmp_ne (off := 7) (by decide +kernel) (by decide), ?_⟩
  refine List.forall_mem_cons.mpr ⟨ze_iconst (n := 3) (by decide +kernel) (by decide), ?_⟩
  refine List.forall_mem_cons.mpr ⟨ze_goto (off := 4) (by decide +kernel) (by decide), ?_⟩
  refine List.forall_mem_cons.mpr ⟨ze_iconst (n := 0) (by decide +kernel) (by decide), ?_⟩
  refine List.forall_mem_cons.mpr ⟨ze_istore_n (k := 3) (by decide +kernel) rfl (by decide), ?_⟩
  refine List.forall_mem_cons.mpr ⟨ze_iconst (n := 1) (by decide +kernel) (by decide), ?_⟩
  refine List.forall_mem_cons.mpr ⟨ze_istore (by decide +kernel) (by decide), ?_⟩
  refine List.forall_mem_cons.mpr ⟨ze_iload (by decide +kernel), ?_⟩
  refine List.forall_mem_cons.mpr ⟨ze_iload_n (k := 3) (by decide +kernel) rfl, ?_⟩
  refine List.forall_mem_cons.mpr ⟨ze_icmp_gt (off := 82) (by decide +kernel) (by decide), ?_⟩
  refine List.forall_mem_cons.mpr ⟨ze_iload (by decide +kernel), ?_⟩
  refine List.forall_mem_cons.mpr ⟨ze_iconst (n := 1) (by decide +kernel) (by decide), ?_⟩
  refine List.forall_mem_cons.mpr ⟨ze_icmp_le (off := 38) (by decide +kernel) (by decide), ?_⟩
  refine List.forall_mem_cons.mpr ⟨ze_aload_n (k := 0) (by decide +kernel) rfl, ?_⟩
  refine List.forall_mem_cons.mpr ⟨ze_callV (idx := 59) (by decide +kernel) ml_X4_59 mv_X4_skipBlanks rfl, ?_⟩
  refine List.forall_mem_cons.mpr ⟨ze_aload_n (k := 0) (by decide +kernel) rfl, ?_⟩
  refine List.forall_mem_cons.mpr ⟨ze_getR (by decide +kernel) fl_X4_23 rfl, ?_⟩
  refine List.forall_mem_cons.mpr ⟨ze_aload_n (k := 0) (by decide +kernel) rfl, ?_⟩
  refine List.forall_mem_cons.mpr ⟨ze_getI (by decide +kernel) fl_X4_27 rfl, ?_⟩
  refine List.forall_mem_cons.mpr ⟨ze_callV (idx := 66) (by decide +kernel) ml_X4_66 mv_X9_at rfl, ?_⟩
  refine List.forall_mem_cons.mpr ⟨ze_bipush (n := 44) (by decide +kernel) (by decide), ?_⟩
  refine List.forall_mem_cons.mpr ⟨ze_icmp_eq (off := 8) (by decide +kernel) (by decide), ?_⟩
  refine List.forall_mem_cons.mpr ⟨ze_aload_n (k := 0) (by decide +kernel) rfl, ?_⟩
  refine List.forall_mem_cons.mpr ⟨ze_getI (by decide +kernel) fl_X4_27 rfl, ?_⟩
  refine List.forall_mem_cons.mpr ⟨ze_iret (by decide +kernel) rfl, ?_⟩
  refine List.forall_mem_cons.mpr ⟨ze_aload_n (k := 0) (by decide +kernel) rfl, ?_⟩
  refine List.forall_mem_cons.mpr ⟨ze_dup (by decide +kernel), ?_⟩
  refine List.forall_mem_cons.mpr ⟨ze_getI (by decide +kernel) fl_X4_27 rfl, ?_⟩
  refine List.forall_mem_cons.mpr ⟨ze_iconst (n := 1) (by decide +kernel) (by decide), ?_⟩
  refine List.forall_mem_cons.mpr ⟨ze_iadd (by decide +kernel), ?_⟩
  refine List.forall_mem_cons.mpr ⟨ze_putI (by decide +kernel) fl_X4_27 ⟨_, _, _, rfl, rfl, by decide +kernel⟩ rfl, ?_⟩
  refine List.forall_mem_cons.mpr ⟨ze_aload_n (k := 0) (by decide +kernel) rfl, ?_⟩
  refine List.forall_mem_cons.mpr ⟨ze_iconst (n := 0) (by decide +kernel) (by decide), ?_⟩
  refine List.forall_mem_cons.mpr ⟨ze_sipush (n := 9999) (by decide +kernel) (by decide), ?_⟩
  refine List.forall_mem_cons.mpr ⟨ze_callV (idx := 96) (by decide +kernel) ml_X4_96 mv_X4_readNumber rfl, ?_⟩
  refine List.forall_mem_cons.mpr ⟨ze_istore (by decide +kernel) (by decide), ?_⟩
  refine List.forall_mem_cons.mpr ⟨ze_iload (by decide +kernel), ?_⟩
  refine List.forall_mem_cons.mpr ⟨ze_iconst (n := -1) (by decide +kernel) (by decide), ?_⟩
  refine List.forall_mem_cons.mpr ⟨ze_icmp_eq (off := 6) (by decide +kernel) (by decide), ?_⟩
  refine List.forall_mem_cons.mpr ⟨ze_iload (by decide +kernel), ?_⟩
  refine List.forall_mem_cons.mpr ⟨ze_iret (by decide +kernel) rfl, ?_⟩
  refine List.forall_mem_cons.mpr ⟨ze_aload_n (k := 0) (by decide +kernel) rfl, ?_⟩
  refine List.forall_mem_cons.mpr ⟨ze_getR (by decide +kernel) fl_X4_17 rfl, ?_⟩
  refine List.forall_mem_cons.mpr ⟨ze_iload_n (k := 2) (by decide +kernel) rfl, ?_⟩
  refine List.forall_mem_cons.mpr ⟨ze_iload (by decide +kernel), ?_⟩
  refine List.forall_mem_cons.mpr ⟨ze_iadd (by decide +kernel), ?_⟩
  refine List.forall_mem_cons.mpr ⟨ze_aload_n (k := 0) (by decide +kernel) rfl, ?_⟩
  refine List.forall_mem_cons.mpr ⟨ze_getI (by decide +kernel) fl_X4_100 rfl, ?_⟩
  refine List.forall_mem_cons.mpr ⟨ze_iastore (by decide +kernel), ?_⟩
  refine List.forall_mem_cons.mpr ⟨ze_iinc (n := 1) (by decide +kernel) (by decide) (by decide), ?_⟩
  refine List.forall_mem_cons.mpr ⟨ze_goto (off := -82) (by decide +kernel) (by decide), ?_⟩
  refine List.forall_mem_cons.mpr ⟨ze_iconst (n := -1) (by decide +kernel) (by decide), ?_⟩
  refine List.forall_mem_cons.mpr ⟨ze_iret (by decide +kernel) rfl, ?_⟩
  exact fun _ h => absurd h List.not_mem_nil
theorem vX4_readStepNumbers {l : Launch} {G : GT} {d : Nat} {av : List Value} {Q : Po} {σ : Mm} (cs : List (Nat × List Nat)) (k : Nat) (h : vc l G d mX4_readStepNumbers TX4_readStepNumbers Q cs k TX4_readStepNumbers (lv_args 0 av) [] σ) (hlen : (lg_sl av).length ≤ mX4_readStepNumbers.2.2.1 := by exact Nat.le_of_ble_eq_true rfl) : MW l G d mX4_readStepNumbers av σ Q := mw_vc TX4_readStepNumbers_ok mc_X4_readStepNumbers rfl hlen cs k rfl h
theorem wX4_readStepNumbers {l : Launch} {G : GT} {d : Nat} {Q : Po} {pc : Nat} {lv : Lv} {st : List Value} {σ : Mm} (cs : List (Nat × List Nat)) (k : Nat) (h : vc l G d mX4_readStepNumbers TX4_readStepNumbers Q cs k (drp TX4_readStepNumbers pc) lv st σ) (hpc : hdp (drp TX4_readStepNumbers pc) = pc := by rfl) : Wp l G d mX4_readStepNumbers pc lv st σ Q := wp_vc TX4_readStepNumbers_ok cs k hpc h
def TX4_readNumber : List In := [(0, 1, zt_aload 0), (1, 4, zt_callV mX4_skipBlanks 0 13), (4, 5, zt_aload 0), (5, 8, zt_getR 13 4), (8, 9, zt_aload 0), (9, 12, zt_getI 13 5), (12, 15, zt_callV mX9_at 1 17), (15, 18, zt_callS mX4_isDigit 1), (18, 21, zt_if_ne 26), (21, 22, zt_aload 0), (22, 25, zt_getI 13 5), (25, 26, zt_iret), (26, 27, zt_aload 0), (27, 28, zt_ic 0), (28, 31, zt_putI 13 6), (31, 32, zt_ic 0), (32, 33, zt_istore 3), (33, 34, zt_iload 3), (34, 35, zt_ic 4), (35, 38, zt_icmp_gt 107), (38, 39, zt_aload 0), (39, 42, zt_getR 13 4), (42, 43, zt_aload 0), (43, 46, zt_getI 13 5), (46, 49, zt_callV mX9_at 1 17), (49, 52, zt_callS mX4_isDigit 1), (52, 55, zt_if_eq 107), (55, 56, zt_iload 3), (56, 57, zt_ic 4), (57, 60, zt_icmp_ne 65), (60, 61, zt_aload 0), (61, 64, zt_getI 13 5), (64, 65, zt_iret), (65, 66, zt_aload 0), (66, 67, zt_aload 0), (67, 70, zt_getI 13 6), (70, 72, zt_ic 10), (72, 73, zt_imul), (73, 74, zt_aload 0), (74, 77, zt_getR 13 4), (77, 78, zt_aload 0), (78, 81, zt_getI 13 5), (81, 84, zt_callV mX9_at 1 17), (84, 85, zt_iadd), (85, 87, zt_ic 48), (87, 88, zt_isub), (88, 91, zt_putI 13 6), (91, 92, zt_aload 0), (92, 93, zt_dup), (93, 96, zt_getI 13 5), (96, 97, zt_ic 1), (97, 98, zt_iadd), (98, 101, zt_putI 13 5), (101, 104, zt_iinc 3 1), (104, 107, zt_goto 33), (107, 108, zt_aload 0), (108, 111, zt_getI 13 6), (111, 112, zt_iload 1), (112, 115, zt_icmp_lt 123), (115, 116, zt_aload 0), (116, 119, zt_getI 13 6), (119, 120, zt_iload 2), (120, 123, zt_icmp_le 132), (123, 124, zt_aload 0), (124, 127, zt_getI 13 5), (127, 128, zt_ic 1), (128, 129, zt_isub), (129, 132, zt_goto 133), (132, 133, zt_ic (-1)), (133, 134, zt_iret)]
theorem TX4_readNumber_ok : ∀ i ∈ TX4_readNumber, Ent mX4_readNumber i := by
  refine List.forall_mem_cons.mpr ⟨ze_aload_n (k := 0) (by decide +kernel) rfl, ?_⟩
  refine List.forall_mem_cons.mpr ⟨ze_callV (idx := 59) (by decide +kernel) ml_X4_59 mv_X4_skipBlanks rfl, ?_⟩
  refine List.forall_mem_cons.mpr ⟨ze_aload_n (k := 0) (by decide +kernel) rfl, ?_⟩
  refine List.forall_mem_cons.mpr ⟨ze_getR (by decide +kernel) fl_X4_23 rfl, ?_⟩
  refine List.forall_mem_cons.mpr ⟨ze_aload_n (k := 0) (by decide +kernel) rfl, ?_⟩
  refine List.forall_mem_cons.mpr ⟨ze_getI (by decide +kernel) fl_X4_27 rfl, ?_⟩
  refine List.forall_mem_cons.mpr ⟨ze_callV (idx := 66) (by decide +kernel) ml_X4_66 mv_X9_at rfl, ?_⟩
  refine List.forall_mem_cons.mpr ⟨ze_callS (idx := 116) (by decide +kernel) ml_X4_116 ms_X4_isDigit, ?_⟩
  refine List.forall_mem_cons.mpr ⟨ze_if_ne (off := 8) (by decide +kernel) (by decide), ?_⟩
  refine List.forall_mem_cons.mpr ⟨ze_aload_n (k := 0) (by decide +kernel) rfl, ?_⟩
  refine List.forall_mem_cons.mpr ⟨ze_getI (by decide +kernel) fl_X4_27 rfl, ?_⟩
  refine List.forall_mem_cons.mpr ⟨ze_iret (by decide +kernel) rfl, ?_⟩
  refine List.forall_mem_cons.mpr ⟨ze_aload_n (k := 0) (by decide +kernel) rfl, ?_⟩
  refine List.forall_mem_cons.mpr ⟨ze_iconst (n := 0) (by decide +kernel) (by decide), ?_⟩
  refine List.forall_mem_cons.mpr ⟨ze_putI (by decide +kernel) fl_X4_100 ⟨_, _, _, rfl, rfl, by decide +kernel⟩ rfl, ?_⟩
  refine List.forall_mem_cons.mpr ⟨ze_iconst (n := 0) (by decide +kernel) (by decide), ?_⟩
  refine List.forall_mem_cons.mpr ⟨ze_istore_n (k := 3) (by decide +kernel) rfl (by decide), ?_⟩
  refine List.forall_mem_cons.mpr ⟨ze_iload_n (k := 3) (by decide +kernel) rfl, ?_⟩
  refine List.forall_mem_cons.mpr ⟨ze_iconst (n := 4) (by decide +kernel) (by decide), ?_⟩
  refine List.forall_mem_cons.mpr ⟨ze_icmp_gt (off := 72) (by decide +kernel) (by decide), ?_⟩
  refine List.forall_mem_cons.mpr ⟨ze_aload_n (k := 0) (by decide +kernel) rfl, ?_⟩
  refine List.forall_mem_cons.mpr ⟨ze_getR (by decide +kernel) fl_X4_23 rfl, ?_⟩
  refine List.forall_mem_cons.mpr ⟨ze_aload_n (k := 0) (by decide +kernel) rfl, ?_⟩
  refine List.forall_mem_cons.mpr ⟨ze_getI (by decide +kernel) fl_X4_27 rfl, ?_⟩
  refine List.forall_mem_cons.mpr ⟨ze_callV (idx := 66) (by decide +kernel) ml_X4_66 mv_X9_at rfl, ?_⟩
  refine List.forall_mem_cons.mpr ⟨ze_callS (idx := 116) (by decide +kernel) ml_X4_116 ms_X4_isDigit, ?_⟩
  refine List.forall_mem_cons.mpr ⟨ze_if_eq (off := 55) (by decide +kernel) (by decide), ?_⟩
  refine List.forall_mem_cons.mpr ⟨ze_iload_n (k := 3) (by decide +kernel) rfl, ?_⟩
  refine List.forall_mem_cons.mpr ⟨ze_iconst (n := 4) (by decide +kernel) (by decide), ?_⟩
  refine List.forall_mem_cons.mpr ⟨ze_icmp_ne (off := 8) (by decide +kernel) (by decide), ?_⟩
  refine List.forall_mem_cons.mpr ⟨ze_aload_n (k := 0) (by decide +kernel) rfl, ?_⟩
  refine List.forall_mem_cons.mpr ⟨ze_getI (by decide +kernel) fl_X4_27 rfl, ?_⟩
  refine List.forall_mem_cons.mpr ⟨ze_iret (by decide +kernel) rfl, ?_⟩
  refine List.forall_mem_cons.mpr ⟨ze_aload_n (k := 0) (by decide +kernel) rfl, ?_⟩
  refine List.forall_mem_cons.mpr ⟨ze_aload_n (k := 0) (by decide +kernel) rfl, ?_⟩
  refine List.forall_mem_cons.mpr ⟨ze_getI (by decide +kernel) fl_X4_100 rfl, ?_⟩
  refine List.forall_mem_cons.mpr ⟨ze_bipush (n := 10) (by decide +kernel) (by decide), ?_⟩
  refine List.forall_mem_cons.mpr ⟨ze_imul (by decide +kernel), ?_⟩
  refine List.forall_mem_cons.mpr ⟨ze_aload_n (k := 0) (by decide +kernel) rfl, ?_⟩
  refine List.forall_mem_cons.mpr ⟨ze_getR (by decide +kernel) fl_X4_23 rfl, ?_⟩
  refine List.forall_mem_cons.mpr ⟨ze_aload_n (k := 0) (by decide +kernel) rfl, ?_⟩
  refine List.forall_mem_cons.mpr ⟨ze_getI (by decide +kernel) fl_X4_27 rfl, ?_⟩
  refine List.forall_mem_cons.mpr ⟨ze_callV (idx := 66) (by decide +kernel) ml_X4_66 mv_X9_at rfl, ?_⟩
  refine List.forall_mem_cons.mpr ⟨ze_iadd (by decide +kernel), ?_⟩
  refine List.forall_mem_cons.mpr ⟨ze_bipush (n := 48) (by decide +kernel) (by decide), ?_⟩
  refine List.forall_mem_cons.mpr ⟨ze_isub (by decide +kernel), ?_⟩
  refine List.forall_mem_cons.mpr ⟨ze_putI (by decide +kernel) fl_X4_100 ⟨_, _, _, rfl, rfl, by decide +kernel⟩ rfl, ?_⟩
  refine List.forall_mem_cons.mpr ⟨ze_aload_n (k := 0) (by decide +kernel) rfl, ?_⟩
  refine List.forall_mem_cons.mpr ⟨ze_dup (by decide +kernel), ?_⟩
  refine List.forall_mem_cons.mpr ⟨ze_getI (by decide +kernel) fl_X4_27 rfl, ?_⟩
  refine List.forall_mem_cons.mpr ⟨ze_iconst (n := 1) (by decide +kernel) (by decide), ?_⟩
  refine List.forall_mem_cons.mpr ⟨ze_iadd (by decide +kernel), ?_⟩
  refine List.forall_mem_cons.mpr ⟨ze_putI (by decide +kernel) fl_X4_27 ⟨_, _, _, rfl, rfl, by decide +kernel⟩ rfl, ?_⟩
  refine List.forall_mem_cons.mpr ⟨ze_iinc (n := 1) (by decide +kernel) (by decide) (by decide), ?_⟩
  refine List.forall_mem_cons.mpr ⟨ze_goto (off := -71) (by decide +kernel) (by decide), ?_⟩
  refine List.forall_mem_cons.mpr ⟨ze_aload_n (k := 0) (by decide +kernel) rfl, ?_⟩
  refine List.forall_mem_cons.mpr ⟨ze_getI (by decide +kernel) fl_X4_100 rfl, ?_⟩
  refine List.forall_mem_cons.mpr ⟨ze_iload_n (k := 1) (by decide +kernel) rfl, ?_⟩
  refine List.forall_mem_cons.mpr ⟨ze_icmp_lt (off := 11) (by decide +kernel) (by decide), ?_⟩
  refine List.forall_mem_cons.mpr ⟨ze_aload_n (k := 0) (by decide +kernel) rfl, ?_⟩
  refine List.forall_mem_cons.mpr ⟨ze_getI (by decide +kernel) fl_X4_100 rfl, ?_⟩
  refine List.forall_mem_cons.mpr ⟨ze_iload_n (k := 2) (by decide +kernel) rfl, ?_⟩
  refine List.forall_mem_cons.mpr ⟨ze_icmp_le (off := 12) (by decide +kernel) (by decide), ?_⟩
  refine List.forall_mem_cons.mpr ⟨ze_aload_n (k := 0) (by decide +kernel) rfl, ?_⟩
  refine List.forall_mem_cons.mpr ⟨ze_getI (by decide +kernel) fl_X4_27 rfl, ?_⟩
  refine List.forall_mem_cons.mpr ⟨ze_iconst (n := 1) (by decide +kernel) (by decide), ?_⟩
  refine List.forall_mem_cons.mpr ⟨ze_isub (by decide +kernel), ?_⟩
  refine List.forall_mem_cons.mpr ⟨ze_goto (off := 4) (by decide +kernel) (by decide), ?_⟩
  refine List.forall_mem_cons.mpr ⟨ze_iconst (n := -1) (by decide +kernel) (by decide), ?_⟩
  refine List.forall_mem_cons.mpr ⟨ze_iret (by decide +kernel) rfl, ?_⟩
  exact fun _ h => absurd h List.not_mem_nil
theorem vX4_readNumber {l : Launch} {G : GT} {d : Nat} {av : List Value} {Q : Po} {σ : Mm} (cs : List (Nat × List Nat)) (k : Nat) (h : vc l G d mX4_readNumber TX4_readNumber Q cs k TX4_readNumber (lv_args 0 av) [] σ) (hlen : (lg_sl av).length ≤ mX4_readNumber.2.2.1 := by exact Nat.le_of_ble_eq_true rfl) : MW l G d mX4_readNumber av σ Q := mw_vc TX4_readNumber_ok mc_X4_readNumber rfl hlen cs k rfl h
theorem wX4_readNumber {l : Launch} {G : GT} {d : Nat} {Q : Po} {pc : Nat} {lv : Lv} {st : List Value} {σ : Mm} (cs : List (Nat × List Nat)) (k : Nat) (h : vc l G d mX4_readNumber TX4_readNumber Q cs k (drp TX4_readNumber pc) lv st σ) (hpc : hdp (drp TX4_readNumber pc) = pc := by rfl) : Wp l G d mX4_readNumber pc lv st σ Q := wp_vc TX4_readNumber_ok cs k hpc h
def TX4_isDigit : List In := [(0, 1, zt_iload 0), (1, 3, zt_ic 48), (3, 6, zt_icmp_lt 16), (6, 7, zt_iload 0), (7, 9, zt_ic 57), (9, 12, zt_icmp_gt 16), (12, 13, zt_ic 1), (13, 16, zt_goto 17), (16, 17, zt_ic 0), (17, 18, zt_zret)]
theorem TX4_isDigit_ok : ∀ i ∈ TX4_isDigit, Ent mX4_isDigit i := by
  refine List.forall_mem_cons.mpr ⟨ze_iload_n (k := 0) (by decide +kernel) rfl, ?_⟩
  refine List.forall_mem_cons.mpr ⟨ze_bipush (n := 48) (by decide +kernel) (by decide), ?_⟩
  refine List.forall_mem_cons.mpr ⟨ze_icmp_lt (off := 13) (by decide +kernel) (by decide), ?_⟩
  refine List.forall_mem_cons.mpr ⟨ze_iload_n (k := 0) (by decide +kernel) rfl, ?_⟩
  refine List.forall_mem_cons.mpr ⟨ze_bipush (n := 57) (by decide +kernel) (by decide), ?_⟩
  refine List.forall_mem_cons.mpr ⟨ze_icmp_gt (off := 7) (by decide +kernel) (by decide), ?_⟩
  refine List.forall_mem_cons.mpr ⟨ze_iconst (n := 1) (by decide +kernel) (by decide), ?_⟩
  refine List.forall_mem_cons.mpr ⟨ze_goto (off := 4) (by decide +kernel) (by decide), ?_⟩
  refine List.forall_mem_cons.mpr ⟨ze_iconst (n := 0) (by decide +kernel) (by decide), ?_⟩
  refine List.forall_mem_cons.mpr ⟨ze_zret (by decide +kernel) rfl, ?_⟩
  exact fun _ h => absurd h List.not_mem_nil
theorem vX4_isDigit {l : Launch} {G : GT} {d : Nat} {av : List Value} {Q : Po} {σ : Mm} (cs : List (Nat × List Nat)) (k : Nat) (h : vc l G d mX4_isDigit TX4_isDigit Q cs k TX4_isDigit (lv_args 0 av) [] σ) (hlen : (lg_sl av).length ≤ mX4_isDigit.2.2.1 := by exact Nat.le_of_ble_eq_true rfl) : MW l G d mX4_isDigit av σ Q := mw_vc TX4_isDigit_ok mc_X4_isDigit rfl hlen cs k rfl h
theorem wX4_isDigit {l : Launch} {G : GT} {d : Nat} {Q : Po} {pc : Nat} {lv : Lv} {st : List Value} {σ : Mm} (cs : List (Nat × List Nat)) (k : Nat) (h : vc l G d mX4_isDigit TX4_isDigit Q cs k (drp TX4_isDigit pc) lv st σ) (hpc : hdp (drp TX4_isDigit pc) = pc := by rfl) : Wp l G d mX4_isDigit pc lv st σ Q := wp_vc TX4_isDigit_ok cs k hpc h
def TX4_skipBlanks : List In := [(0, 1, zt_aload 0), (1, 4, zt_getI 13 5), (4, 5, zt_aload 0), (5, 8, zt_getR 13 4), (8, 11, zt_getI 17 1), (11, 14, zt_icmp_ge 43), (14, 15, zt_aload 0), (15, 18, zt_getR 13 4), (18, 19, zt_aload 0), (19, 22, zt_getI 13 5), (22, 25, zt_callV mX9_at 1 17), (25, 27, zt_ic 32), (27, 30, zt_icmp_ne 43), (30, 31, zt_aload 0), (31, 32, zt_dup), (32, 35, zt_getI 13 5), (35, 36, zt_ic 1), (36, 37, zt_iadd), (37, 40, zt_putI 13 5), (40, 43, zt_goto 0), (43, 44, zt_vret)]
theorem TX4_skipBlanks_ok : ∀ i ∈ TX4_skipBlanks, Ent mX4_skipBlanks i := by
  refine List.forall_mem_cons.mpr ⟨ze_aload_n (k := 0) (by decide +kernel) rfl, ?_⟩
  refine List.forall_mem_cons.mpr ⟨ze_getI (by decide +kernel) fl_X4_27 rfl, ?_⟩
  refine List.forall_mem_cons.mpr ⟨ze_aload_n (k := 0) (by decide +kernel) rfl, ?_⟩
  refine List.forall_mem_cons.mpr ⟨ze_getR (by decide +kernel) fl_X4_23 rfl, ?_⟩
  refine List.forall_mem_cons.mpr ⟨ze_getI (by decide +kernel) fl_X4_78 rfl, ?_⟩
  refine List.forall_mem_cons.mpr ⟨ze_icmp_ge (off := 32) (by decide +kernel) (by decide), ?_⟩
  refine List.forall_mem_cons.mpr ⟨ze_aload_n (k := 0) (by decide +kernel) rfl, ?_⟩
  refine List.forall_mem_cons.mpr ⟨ze_getR (by decide +kernel) fl_X4_23 rfl, ?_⟩
  refine List.forall_mem_cons.mpr ⟨ze_aload_n (k := 0) (by decide +kernel) rfl, ?_⟩
  refine List.forall_mem_cons.mpr ⟨ze_getI (by decide +kernel) fl_X4_27 rfl, ?_⟩
  refine List.forall_mem_cons.mpr ⟨ze_callV (idx := 66) (by decide +kernel) ml_X4_66 mv_X9_at rfl, ?_⟩
  refine List.forall_mem_cons.mpr ⟨ze_bipush (n := 32) (by decide +kernel) (by decide), ?_⟩
  refine List.forall_mem_cons.mpr ⟨ze_icmp_ne (off := 16) (by decide +kernel) (by decide), ?_⟩
  refine List.forall_mem_cons.mpr ⟨ze_aload_n (k := 0) (by decide +kernel) rfl, ?_⟩
  refine List.forall_mem_cons.mpr ⟨ze_dup (by decide +kernel), ?_⟩
  refine List.forall_mem_cons.mpr ⟨ze_getI (by decide +kernel) fl_X4_27 rfl, ?_⟩
  refine List.forall_mem_cons.mpr ⟨ze_iconst (n := 1) (by decide +kernel) (by decide), ?_⟩
  refine List.forall_mem_cons.mpr ⟨ze_iadd (by decide +kernel), ?_⟩
  refine List.forall_mem_cons.mpr ⟨ze_putI (by decide +kernel) fl_X4_27 ⟨_, _, _, rfl, rfl, by decide +kernel⟩ rfl, ?_⟩
  refine List.forall_mem_cons.mpr ⟨ze_goto (off := -40) (by decide +kernel) (by decide), ?_⟩
  refine List.forall_mem_cons.mpr ⟨ze_vret (by decide +kernel) rfl, ?_⟩
  exact fun _ h => absurd h List.not_mem_nil
theorem vX4_skipBlanks {l : Launch} {G : GT} {d : Nat} {av : List Value} {Q : Po} {σ : Mm} (cs : List (Nat × List Nat)) (k : Nat) (h : vc l G d mX4_skipBlanks TX4_skipBlanks Q cs k TX4_skipBlanks (lv_args 0 av) [] σ) (hlen : (lg_sl av).length ≤ mX4_skipBlanks.2.2.1 := by exact Nat.le_of_ble_eq_true rfl) : MW l G d mX4_skipBlanks av σ Q := mw_vc TX4_skipBlanks_ok mc_X4_skipBlanks rfl hlen cs k rfl h
theorem wX4_skipBlanks {l : Launch} {G : GT} {d : Nat} {Q : Po} {pc : Nat} {lv : Lv} {st : List Value} {σ : Mm} (cs : List (Nat × List Nat)) (k : Nat) (h : vc l G d mX4_skipBlanks TX4_skipBlanks Q cs k (drp TX4_skipBlanks pc) lv st σ) (hpc : hdp (drp TX4_skipBlanks pc) = pc := by rfl) : Wp l G d mX4_skipBlanks pc lv st σ Q := wp_vc TX4_skipBlanks_ok cs k hpc h
def TX6_has : List In := [(0, 1, zt_iload 1), (1, 4, zt_if_lt 16), (4, 5, zt_iload 1), (5, 6, zt_aload 0), (6, 9, zt_getI 14 2), (9, 12, zt_icmp_ge 16), (12, 13, zt_ic 1), (13, 16, zt_goto 17), (16, 17, zt_ic 0), (17, 18, zt_zret)]
theorem TX6_has_ok : ∀ i ∈ TX6_has, Ent mX6_has i := by
  refine List.forall_mem_cons.mpr ⟨ze_iload_n (k := 1) (by decide +kernel) rfl, ?_⟩
  refine List.forall_mem_cons.mpr ⟨ze_if_lt (off := 15) (by decide +kernel) (by decide), ?_⟩
  refine List.forall_mem_cons.mpr ⟨ze_iload_n (k := 1) (by decide +kernel) rfl, ?_⟩
  refine List.forall_mem_cons.mpr ⟨ze_aload_n (k := 0) (by decide +kernel) rfl, ?_⟩
  refine List.forall_mem_cons.mpr ⟨ze_getI (by decide +kernel) fl_X6_18 rfl, ?_⟩
  refine List.forall_mem_cons.mpr ⟨ze_icmp_ge (off := 7) (by decide +kernel) (by decide), ?_⟩
  refine List.forall_mem_cons.mpr ⟨ze_iconst (n := 1) (by decide +kernel) (by decide), ?_⟩
  refine List.forall_mem_cons.mpr ⟨ze_goto (off := 4) (by decide +kernel) (by decide), ?_⟩
  refine List.forall_mem_cons.mpr ⟨ze_iconst (n := 0) (by decide +kernel) (by decide), ?_⟩
  refine List.forall_mem_cons.mpr ⟨ze_zret (by decide +kernel) rfl, ?_⟩
  exact fun _ h => absurd h List.not_mem_nil
theorem vX6_has {l : Launch} {G : GT} {d : Nat} {av : List Value} {Q : Po} {σ : Mm} (cs : List (Nat × List Nat)) (k : Nat) (h : vc l G d mX6_has TX6_has Q cs k TX6_has (lv_args 0 av) [] σ) (hlen : (lg_sl av).length ≤ mX6_has.2.2.1 := by exact Nat.le_of_ble_eq_true rfl) : MW l G d mX6_has av σ Q := mw_vc TX6_has_ok mc_X6_has rfl hlen cs k rfl h
theorem wX6_has {l : Launch} {G : GT} {d : Nat} {Q : Po} {pc : Nat} {lv : Lv} {st : List Value} {σ : Mm} (cs : List (Nat × List Nat)) (k : Nat) (h : vc l G d mX6_has TX6_has Q cs k (drp TX6_has pc) lv st σ) (hpc : hdp (drp TX6_has pc) = pc := by rfl) : Wp l G d mX6_has pc lv st σ Q := wp_vc TX6_has_ok cs k hpc h
def TX6_sizeOf : List In := [(0, 1, zt_aload 0), (1, 2, zt_iload 1), (2, 5, zt_callV mX6_has 1 14), (5, 8, zt_if_eq 17), (8, 9, zt_aload 0), (9, 12, zt_getR 14 1), (12, 13, zt_iload 1), (13, 14, zt_iaload), (14, 17, zt_goto 18), (17, 18, zt_ic 0), (18, 19, zt_iret)]
theorem TX6_sizeOf_ok : ∀ i ∈ TX6_sizeOf, Ent mX6_sizeOf i := by
  refine List.forall_mem_cons.mpr ⟨ze_aload_n (k := 0) (by decide +kernel) rfl, ?_⟩
  refine List.forall_mem_cons.mpr ⟨ze_iload_n (k := 1) (by decide +kernel) rfl, ?_⟩
  refine List.forall_mem_cons.mpr ⟨ze_callV (idx := 22) (by decide +kernel) ml_X6_22 mv_X6_has rfl, ?_⟩
  refine List.forall_mem_cons.mpr ⟨ze_if_eq (off := 12) (by decide +kernel) (by decide), ?_⟩
  refine List.forall_mem_cons.mpr ⟨ze_aload_n (k := 0) (by decide +kernel) rfl, ?_⟩
  refine List.forall_mem_cons.mpr ⟨ze_getR (by decide +kernel) fl_X6_15 rfl, ?_⟩
  refine List.forall_mem_cons.mpr ⟨ze_iload_n (k := 1) (by decide +kernel) rfl, ?_⟩
  refine List.forall_mem_cons.mpr ⟨ze_iaload (by decide +kernel), ?_⟩
  refine List.forall_mem_cons.mpr ⟨ze_goto (off := 4) (by decide +kernel) (by decide), ?_⟩
  refine List.forall_mem_cons.mpr ⟨ze_iconst (n := 0) (by decide +kernel) (by decide), ?_⟩
  refine List.forall_mem_cons.mpr ⟨ze_iret (by decide +kernel) rfl, ?_⟩
  exact fun _ h => absurd h List.not_mem_nil
theorem vX6_sizeOf {l : Launch} {G : GT} {d : Nat} {av : List Value} {Q : Po} {σ : Mm} (cs : List (Nat × List Nat)) (k : Nat) (h : vc l G d mX6_sizeOf TX6_sizeOf Q cs k TX6_sizeOf (lv_args 0 av) [] σ) (hlen : (lg_sl av).length ≤ mX6_sizeOf.2.2.1 := by exact Nat.le_of_ble_eq_true rfl) : MW l G d mX6_sizeOf av σ Q := mw_vc TX6_sizeOf_ok mc_X6_sizeOf rfl hlen cs k rfl h
theorem wX6_sizeOf {l : Launch} {G : GT} {d : Nat} {Q : Po} {pc : Nat} {lv : Lv} {st : List Value} {σ : Mm} (cs : List (Nat × List Nat)) (k : Nat) (h : vc l G d mX6_sizeOf TX6_sizeOf Q cs k (drp TX6_sizeOf pc) lv st σ) (hpc : hdp (drp TX6_sizeOf pc) = pc := by rfl) : Wp l G d mX6_sizeOf pc lv st σ Q := wp_vc TX6_sizeOf_ok cs k hpc h
def TX6_number : List In := [(0, 1, zt_iload 2), (1, 4, zt_if_lt 26), (4, 5, zt_iload 2), (5, 6, zt_aload 0), (6, 7, zt_iload 1), (7, 10, zt_callV mX6_sizeOf 1 14), (10, 13, zt_icmp_ge 26), (13, 14, zt_iload 3), (14, 17, zt_if_lt 26), (17, 18, zt_iload 3), (18, 19, zt_ic 4), (19, 22, zt_icmp_ge 26), (22, 23, zt_ic 1), (23, 26, zt_goto 27), (26, 27, zt_ic 0), (27, 29, zt_istore 4), (29, 31, zt_iload 4), (31, 34, zt_if_eq 52), (34, 35, zt_aload 0), (35, 38, zt_getR 14 0), (38, 39, zt_iload 1), (39, 41, zt_ic 16), (41, 42, zt_imul), (42, 43, zt_iload 2), (43, 44, zt_iadd), (44, 45, zt_ic 4), (45, 46, zt_imul), (46, 47, zt_iload 3), (47, 48, zt_iadd), (48, 49, zt_iaload), (49, 52, zt_goto 53), (52, 53, zt_ic (-1)), (53, 54, zt_iret)]
theorem TX6_number_ok : ∀ i ∈ TX6_number, Ent mX6_number i := by
  refine List.forall_mem_cons.mpr ⟨ze_iload_n (k := 2) (by decide +kernel) rfl, ?_⟩
  refine List.forall_mem_cons.mpr ⟨ze_if_lt (off := 25) (by decide +kernel) (by decide), ?_⟩
  refine List.forall_mem_cons.mpr ⟨ze_iload_n (k := 2) (by decide +kernel) rfl, ?_⟩
  refine List.forall_mem_cons.mpr ⟨ze_aload_n (k := 0) (by decide +kernel) rfl, ?_⟩
  refine List.forall_mem_cons.mpr ⟨ze_iload_n (k := 1) (by decide +kernel) rfl, ?_⟩
  refine List.forall_mem_cons.mpr ⟨ze_callV (idx := 26) (by decide +kernel) ml_X6_26 mv_X6_sizeOf rfl, ?_⟩
  refine List.forall_mem_cons.mpr ⟨ze_icmp_ge (off := 16) (by decide +kernel) (by decide), ?_⟩
  refine List.forall_mem_cons.mpr ⟨ze_iload_n (k := 3) (by decide +kernel) rfl, ?_⟩
  refine List.forall_mem_cons.mpr ⟨ze_if_lt (off := 12) (by decide +kernel) (by decide), ?_⟩
  refine List.forall_mem_cons.mpr ⟨ze_iload_n (k := 3) (by decide +kernel) rfl, ?_⟩
  refine List.forall_mem_cons.mpr ⟨ze_iconst (n := 4) (by decide +kernel) (by decide), ?_⟩
  refine List.forall_mem_cons.mpr ⟨ze_icmp_ge (off := 7) (by decide +kernel) (by decide), ?_⟩
  refine List.forall_mem_cons.mpr ⟨ze_iconst (n := 1) (by decide +kernel) (by decide), ?_⟩
  refine List.forall_mem_cons.mpr ⟨ze_goto (off := 4) (by decide +kernel) (by decide), ?_⟩
  refine List.forall_mem_cons.mpr ⟨ze_iconst (n := 0) (by decide +kernel) (by decide), ?_⟩
  refine List.forall_mem_cons.mpr ⟨ze_istore (by decide +kernel) (by decide), ?_⟩
  refine List.forall_mem_cons.mpr ⟨ze_iload (by decide +kernel), ?_⟩
  refine List.forall_mem_cons.mpr ⟨ze_if_eq (off := 21) (by decide +kernel) (by decide), ?_⟩
  refine List.forall_mem_cons.mpr ⟨ze_aload_n (k := 0) (by decide +kernel) rfl, ?_⟩
  refine List.forall_mem_cons.mpr ⟨ze_getR (by decide +kernel) fl_X6_11 rfl, ?_⟩
  refine List.forall_mem_cons.mpr ⟨ze_iload_n (k := 1) (by decide +kernel) rfl, ?_⟩
  refine List.forall_mem_cons.mpr ⟨ze_bipush (n := 16) (by decide +kernel) (by decide), ?_⟩
  refine List.forall_mem_cons.mpr ⟨ze_imul (by decide +kernel), ?_⟩
  refine List.forall_mem_cons.mpr ⟨ze_iload_n (k := 2) (by decide +kernel) rfl, ?_⟩
  refine List.forall_mem_cons.mpr ⟨ze_iadd (by decide +kernel), ?_⟩
  refine List.forall_mem_cons.mpr ⟨ze_iconst (n := 4) (by decide +kernel) (by decide), ?_⟩
  refine List.forall_mem_cons.mpr ⟨ze_imul (by decide +kernel), ?_⟩
  refine List.forall_mem_cons.mpr ⟨ze_iload_n (k := 3) (by decide +kernel) rfl, ?_⟩
  refine List.forall_mem_cons.mpr ⟨ze_iadd (by decide +kernel), ?_⟩
  refine List.forall_mem_cons.mpr ⟨ze_iaload (by decide +kernel), ?_⟩
  refine List.forall_mem_cons.mpr ⟨ze_goto (off := 4) (by decide +kernel) (by decide), ?_⟩
  refine List.forall_mem_cons.mpr ⟨ze_iconst (n := -1) (by decide +kernel) (by decide), ?_⟩
  refine List.forall_mem_cons.mpr ⟨ze_iret (by decide +kernel) rfl, ?_⟩
  exact fun _ h => absurd h List.not_mem_nil
theorem vX6_number {l : Launch} {G : GT} {d : Nat} {av : List Value} {Q : Po} {σ : Mm} (cs : List (Nat × List Nat)) (k : Nat) (h : vc l G d mX6_number TX6_number Q cs k TX6_number (lv_args 0 av) [] σ) (hlen : (lg_sl av).length ≤ mX6_number.2.2.1 := by exact Nat.le_of_ble_eq_true rfl) : MW l G d mX6_number av σ Q := mw_vc TX6_number_ok mc_X6_number rfl hlen cs k rfl h
theorem wX6_number {l : Launch} {G : GT} {d : Nat} {Q : Po} {pc : Nat} {lv : Lv} {st : List Value} {σ : Mm} (cs : List (Nat × List Nat)) (k : Nat) (h : vc l G d mX6_number TX6_number Q cs k (drp TX6_number pc) lv st σ) (hpc : hdp (drp TX6_number pc) = pc := by rfl) : Wp l G d mX6_number pc lv st σ Q := wp_vc TX6_number_ok cs k hpc h
def TX6_take : List In := [(0, 1, zt_aload 0), (1, 4, zt_getI 14 2), (4, 5, zt_ic 4), (5, 8, zt_icmp_ge 14), (8, 9, zt_iload 2), (9, 11, zt_ic 16), (11, 14, zt_icmp_le 16), (14, 15, zt_ic (-1)), (15, 16, zt_iret), (16, 17, zt_aload 1), (17, 18, zt_ic 0), (18, 19, zt_aload 0), (19, 22, zt_getR 14 0), (22, 23, zt_aload 0), (23, 26, zt_getI 14 2), (26, 28, zt_ic 16), (28, 29, zt_imul), (29, 30, zt_ic 4), (30, 31, zt_imul), (31, 32, zt_iload 2), (32, 33, zt_ic 4), (33, 34, zt_imul), (34, 37, zt_copyI), (37, 38, zt_aload 0), (38, 41, zt_getR 14 1), (41, 42, zt_aload 0), (42, 45, zt_getI 14 2), (45, 46, zt_iload 2), (46, 47, zt_iastore), (47, 48, zt_aload 0), (48, 49, zt_dup), (49, 52, zt_getI 14 2), (52, 53, zt_ic 1), (53, 54, zt_iadd), (54, 57, zt_putI 14 2), (57, 58, zt_aload 0), (58, 61, zt_getI 14 2), (61, 62, zt_ic 1), (62, 63, zt_isub), (63, 64, zt_iret)]
theorem TX6_take_ok : ∀ i ∈ TX6_take, Ent mX6_take i := by
  refine List.forall_mem_cons.mpr ⟨ze_aload_n (k := 0) (by decide +kernel) rfl, ?_⟩
  refine List.forall_mem_cons.mpr ⟨ze_getI (by decide +kernel) fl_X6_18 rfl, ?_⟩
  refine List.forall_mem_cons.mpr ⟨ze_iconst (n := 4) (by decide +kernel) (by decide), ?_⟩
  refine List.forall_mem_cons.mpr ⟨ze_icmp_ge (off := 9) (by decide +kernel) (by decide), ?_⟩
  refine List.forall_mem_cons.mpr ⟨ze_iload_n (k := 2) (by decide +kernel) rfl, ?_⟩
  refine List.forall_mem_cons.mpr ⟨ze_bipush (n := 16) (by decide +kernel) (by decide), ?_⟩
  refine List.forall_mem_cons.mpr ⟨ze_icmp_le (off := 5) (by decide +kernel) (by decide), ?_⟩
  refine List.forall_mem_cons.mpr ⟨ze_iconst (n := -1) (by decide +kernel) (by decide), ?_⟩
  refine List.forall_mem_cons.mpr ⟨ze_iret (by decide +kernel) rfl, ?_⟩
  refine List.forall_mem_cons.mpr ⟨ze_aload_n (k := 1) (by decide +kernel) rfl, ?_⟩
  refine List.forall_mem_cons.mpr ⟨ze_iconst (n := 0) (by decide +kernel) (by decide), ?_⟩
  refine List.forall_mem_cons.mpr ⟨ze_aload_n (k := 0) (by decide +kernel) rfl, ?_⟩
  refine List.forall_mem_cons.mpr ⟨ze_getR (by decide +kernel) fl_X6_11 rfl, ?_⟩
  refine List.forall_mem_cons.mpr ⟨ze_aload_n (k := 0) (by decide +kernel) rfl, ?_⟩
  refine List.forall_mem_cons.mpr ⟨ze_getI (by decide +kernel) fl_X6_18 rfl, ?_⟩
  refine List.forall_mem_cons.mpr ⟨ze_bipush (n := 16) (by decide +kernel) (by decide), ?_⟩
  refine List.forall_mem_cons.mpr ⟨ze_imul (by decide +kernel), ?_⟩
  refine List.forall_mem_cons.mpr ⟨ze_iconst (n := 4) (by decide +kernel) (by decide), ?_⟩
  refine List.forall_mem_cons.mpr ⟨ze_imul (by decide +kernel), ?_⟩
  refine List.forall_mem_cons.mpr ⟨ze_iload_n (k := 2) (by decide +kernel) rfl, ?_⟩
  refine List.forall_mem_cons.mpr ⟨ze_iconst (n := 4) (by decide +kernel) (by decide), ?_⟩
  refine List.forall_mem_cons.mpr ⟨ze_imul (by decide +kernel), ?_⟩
  refine List.forall_mem_cons.mpr ⟨ze_copyI (idx := 30) (by decide +kernel) ml_X6_30 jcp.1 jcp.2.1 jcp.2.2, ?_⟩
  refine List.forall_mem_cons.mpr ⟨ze_aload_n (k := 0) (by decide +kernel) rfl, ?_⟩
  refine List.forall_mem_cons.mpr ⟨ze_getR (by decide +kernel) fl_X6_15 rfl, ?_⟩
  refine List.forall_mem_cons.mpr ⟨ze_aload_n (k := 0) (by decide +kernel) rfl, ?_⟩
  refine List.forall_mem_cons.mpr ⟨ze_getI (by decide +kernel) fl_X6_18 rfl, ?_⟩
  refine List.forall_mem_cons.mpr ⟨ze_iload_n (k := 2) (by decide +kernel) rfl, ?_⟩
  refine List.forall_mem_cons.mpr ⟨ze_iastore (by decide +kernel), ?_⟩
  refine List.forall_mem_cons.mpr ⟨ze_aload_n (k := 0) (by decide +kernel) rfl, ?_⟩
  refine List.forall_mem_cons.mpr ⟨ze_dup (by decide +kernel), ?_⟩
  refine List.forall_mem_cons.mpr ⟨ze_getI (by decide +kernel) fl_X6_18 rfl, ?_⟩
  refine List.forall_mem_cons.mpr ⟨ze_iconst (n := 1) (by decide +kernel) (by decide), ?_⟩
  refine List.forall_mem_cons.mpr ⟨ze_iadd (by decide +kernel), ?_⟩
  refine List.forall_mem_cons.mpr ⟨ze_putI (by decide +kernel) fl_X6_18 ⟨_, _, _, rfl, rfl, by decide +kernel⟩ rfl, ?_⟩
  refine List.forall_mem_cons.mpr ⟨ze_aload_n (k := 0) (by decide +kernel) rfl, ?_⟩
  refine List.forall_mem_cons.mpr ⟨ze_getI (by decide +kernel) fl_X6_18 rfl, ?_⟩
  refine List.forall_mem_cons.mpr ⟨ze_iconst (n := 1) (by decide +kernel) (by decide), ?_⟩
  refine List.forall_mem_cons.mpr ⟨ze_isub (by decide +kernel), ?_⟩
  refine List.forall_mem_cons.mpr ⟨ze_iret (by decide +kernel) rfl, ?_⟩
  exact fun _ h => absurd h List.not_mem_nil
theorem vX6_take {l : Launch} {G : GT} {d : Nat} {av : List Value} {Q : Po} {σ : Mm} (cs : List (Nat × List Nat)) (k : Nat) (h : vc l G d mX6_take TX6_take Q cs k TX6_take (lv_args 0 av) [] σ) (hlen : (lg_sl av).length ≤ mX6_take.2.2.1 := by exact Nat.le_of_ble_eq_true rfl) : MW l G d mX6_take av σ Q := mw_vc TX6_take_ok mc_X6_take rfl hlen cs k rfl h
theorem wX6_take {l : Launch} {G : GT} {d : Nat} {Q : Po} {pc : Nat} {lv : Lv} {st : List Value} {σ : Mm} (cs : List (Nat × List Nat)) (k : Nat) (h : vc l G d mX6_take TX6_take Q cs k (drp TX6_take pc) lv st σ) (hpc : hdp (drp TX6_take pc) = pc := by rfl) : Wp l G d mX6_take pc lv st σ Q := wp_vc TX6_take_ok cs k hpc h
def TX8_nodeOf : List In := [(0, 1, zt_iload 0), (1, 2, zt_iload 0), (2, 3, zt_ic 1), (3, 4, zt_iadd), (4, 5, zt_imul), (5, 6, zt_ic 2), (6, 7, zt_idiv), (7, 8, zt_iload 1), (8, 9, zt_iadd), (9, 10, zt_iret)]
theorem TX8_nodeOf_ok : ∀ i ∈ TX8_nodeOf, Ent mX8_nodeOf i := by
  refine List.forall_mem_cons.mpr ⟨ze_iload_n (k := 0) (by decide +kernel) rfl, ?_⟩
  refine List.forall_mem_cons.mpr ⟨ze_iload_n (k := 0) (by decide +kernel) rfl, ?_⟩
  refine List.forall_mem_cons.mpr ⟨ze_iconst (n := 1) (by decide +kernel) (by decide), ?_⟩
  refine List.forall_mem_cons.mpr ⟨ze_iadd (by decide +kernel), ?_⟩
  refine List.forall_mem_cons.mpr ⟨ze_imul (by decide +kernel), ?_⟩
  refine List.forall_mem_cons.mpr ⟨ze_iconst (n := 2) (by decide +kernel) (by decide), ?_⟩
  refine List.forall_mem_cons.mpr ⟨ze_idiv (by decide +kernel), ?_⟩
  refine List.forall_mem_cons.mpr ⟨ze_iload_n (k := 1) (by decide +kernel) rfl, ?_⟩
  refine List.forall_mem_cons.mpr ⟨ze_iadd (by decide +kernel), ?_⟩
  refine List.forall_mem_cons.mpr ⟨ze_iret (by decide +kernel) rfl, ?_⟩
  exact fun _ h => absurd h List.not_mem_nil
theorem vX8_nodeOf {l : Launch} {G : GT} {d : Nat} {av : List Value} {Q : Po} {σ : Mm} (cs : List (Nat × List Nat)) (k : Nat) (h : vc l G d mX8_nodeOf TX8_nodeOf Q cs k TX8_nodeOf (lv_args 0 av) [] σ) (hlen : (lg_sl av).length ≤ mX8_nodeOf.2.2.1 := by exact Nat.le_of_ble_eq_true rfl) : MW l G d mX8_nodeOf av σ Q := mw_vc TX8_nodeOf_ok mc_X8_nodeOf rfl hlen cs k rfl h
theorem wX8_nodeOf {l : Launch} {G : GT} {d : Nat} {Q : Po} {pc : Nat} {lv : Lv} {st : List Value} {σ : Mm} (cs : List (Nat × List Nat)) (k : Nat) (h : vc l G d mX8_nodeOf TX8_nodeOf Q cs k (drp TX8_nodeOf pc) lv st σ) (hpc : hdp (drp TX8_nodeOf pc) = pc := by rfl) : Wp l G d mX8_nodeOf pc lv st σ Q := wp_vc TX8_nodeOf_ok cs k hpc h
def TX8_bounded : List In := [(0, 1, zt_ic 0), (1, 4, zt_ic 999), (4, 5, zt_iload 0), (5, 8, zt_min), (8, 11, zt_max), (11, 12, zt_iret)]
theorem TX8_bounded_ok : ∀ i ∈ TX8_bounded, Ent mX8_bounded i := by
  refine List.forall_mem_cons.mpr ⟨ze_iconst (n := 0) (by decide +kernel) (by decide), ?_⟩
  refine List.forall_mem_cons.mpr ⟨ze_sipush (n := 999) (by decide +kernel) (by decide), ?_⟩
  refine List.forall_mem_cons.mpr ⟨ze_iload_n (k := 0) (by decide +kernel) rfl, ?_⟩
  refine List.forall_mem_cons.mpr ⟨ze_min (idx := 53) (by decide +kernel) ml_X8_53 jmn.1 jmn.2.1 jmn.2.2, ?_⟩
  refine List.forall_mem_cons.mpr ⟨ze_max (idx := 59) (by decide +kernel) ml_X8_59 jmx.1 jmx.2.1 jmx.2.2, ?_⟩
  refine List.forall_mem_cons.mpr ⟨ze_iret (by decide +kernel) rfl, ?_⟩
  exact fun _ h => absurd h List.not_mem_nil
theorem vX8_bounded {l : Launch} {G : GT} {d : Nat} {av : List Value} {Q : Po} {σ : Mm} (cs : List (Nat × List Nat)) (k : Nat) (h : vc l G d mX8_bounded TX8_bounded Q cs k TX8_bounded (lv_args 0 av) [] σ) (hlen : (lg_sl av).length ≤ mX8_bounded.2.2.1 := by exact Nat.le_of_ble_eq_true rfl) : MW l G d mX8_bounded av σ Q := mw_vc TX8_bounded_ok mc_X8_bounded rfl hlen cs k rfl h
theorem wX8_bounded {l : Launch} {G : GT} {d : Nat} {Q : Po} {pc : Nat} {lv : Lv} {st : List Value} {σ : Mm} (cs : List (Nat × List Nat)) (k : Nat) (h : vc l G d mX8_bounded TX8_bounded Q cs k (drp TX8_bounded pc) lv st σ) (hpc : hdp (drp TX8_bounded pc) = pc := by rfl) : Wp l G d mX8_bounded pc lv st σ Q := wp_vc TX8_bounded_ok cs k hpc h
def TX8_forget : List In := [(0, 1, zt_aload 0), (1, 2, zt_ic 1), (2, 5, zt_putZ 16 11), (5, 6, zt_vret)]
theorem TX8_forget_ok : ∀ i ∈ TX8_forget, Ent mX8_forget i := by
  refine List.forall_mem_cons.mpr ⟨ze_aload_n (k := 0) (by decide +kernel) rfl, ?_⟩
  refine List.forall_mem_cons.mpr ⟨ze_iconst (n := 1) (by decide +kernel) (by decide), ?_⟩
  refine List.forall_mem_cons.mpr ⟨ze_putZ (by decide +kernel) fl_X8_62 ⟨_, _, _, rfl, rfl, by decide +kernel⟩ rfl, ?_⟩
  refine List.forall_mem_cons.mpr ⟨ze_vret (by decide +kernel) rfl, ?_⟩
  exact fun _ h => absurd h List.not_mem_nil
theorem vX8_forget {l : Launch} {G : GT} {d : Nat} {av : List Value} {Q : Po} {σ : Mm} (cs : List (Nat × List Nat)) (k : Nat) (h : vc l G d mX8_forget TX8_forget Q cs k TX8_forget (lv_args 0 av) [] σ) (hlen : (lg_sl av).length ≤ mX8_forget.2.2.1 := by exact Nat.le_of_ble_eq_true rfl) : MW l G d mX8_forget av σ Q := mw_vc TX8_forget_ok mc_X8_forget rfl hlen cs k rfl h
theorem wX8_forget {l : Launch} {G : GT} {d : Nat} {Q : Po} {pc : Nat} {lv : Lv} {st : List Value} {σ : Mm} (cs : List (Nat × List Nat)) (k : Nat) (h : vc l G d mX8_forget TX8_forget Q cs k (drp TX8_forget pc) lv st σ) (hpc : hdp (drp TX8_forget pc) = pc := by rfl) : Wp l G d mX8_forget pc lv st σ Q := wp_vc TX8_forget_ok cs k hpc h
def TX8_look : List In := [(0, 1, zt_aload 0), (1, 4, zt_getI 16 11), (4, 5, zt_istore 3), (5, 6, zt_aload 0), (6, 7, zt_ic 0), (7, 10, zt_putZ 16 11), (10, 12, zt_ic 25), (12, 14, zt_istore 4), (14, 16, zt_iload 4), (16, 18, zt_ic 103), (18, 21, zt_icmp_ge 67), (21, 22, zt_aload 1), (22, 24, zt_iload 4), (24, 25, zt_iaload), (25, 26, zt_iload 2), (26, 27, zt_iadd), (27, 30, zt_callS mX8_bounded 1), (30, 32, zt_istore 5), (32, 33, zt_iload 3), (33, 34, zt_aload 0), (34, 37, zt_getR 16 7), (37, 39, zt_iload 4), (39, 40, zt_iaload), (40, 42, zt_iload 5), (42, 45, zt_icmp_eq 49), (45, 46, zt_ic 1), (46, 49, zt_goto 50), (49, 50, zt_ic 0), (50, 51, zt_ior), (51, 52, zt_istore 3), (52, 53, zt_aload 0), (53, 56, zt_getR 16 7), (56, 58, zt_iload 4), (58, 60, zt_iload 5), (60, 61, zt_iastore), (61, 64, zt_iinc 4 1), (64, 67, zt_goto 14), (67, 68, zt_aload 0), (68, 69, zt_aload 1), (69, 71, zt_ic 12), (71, 73, zt_ic 25), (73, 76, zt_callV mX8_takesOver 3 16), (76, 79, zt_if_ne 83), (79, 80, zt_iload 3), (80, 83, zt_if_eq 89), (83, 84, zt_ic 1), (84, 85, zt_istore 3), (85, 86, zt_aload 0), (86, 89, zt_callV mX8_reckonYears 0 16), (89, 90, zt_iload 3), (90, 93, zt_if_eq 108), (93, 94, zt_aload 0), (94, 97, zt_getR 16 10), (97, 98, zt_ic 0), (98, 99, zt_ic 0), (99, 100, zt_iastore), (100, 101, zt_aload 0), (101, 104, zt_getR 16 4), (104, 105, zt_ic 0), (105, 108, zt_putZ 15 7), (108, 109, zt_aload 0), (109, 110, zt_aload 1), (110, 112, zt_ic 103), (112, 114, zt_ic 115), (114, 117, zt_callV mX8_takesOver 3 16), (117, 120, zt_if_ne 124), (120, 121, zt_iload 3), (121, 124, zt_if_eq 139), (124, 125, zt_aload 0), (125, 128, zt_getR 16 10), (128, 129, zt_ic 1), (129, 130, zt_ic 0), (130, 131, zt_iastore), (131, 132, zt_aload 0), (132, 135, zt_getR 16 5), (135, 136, zt_ic 0), (136, 139, zt_putZ 15 7), (139, 140, zt_vret)]
theorem TX8_look_ok : ∀ i ∈ TX8_look, Ent mX8_look i := by
  refine List.forall_mem_cons.mpr ⟨ze_aload_n (k := 0) (by decide +kernel) rfl, ?_⟩
  refine List.forall_mem_cons.mpr ⟨ze_getI (by decide +kernel) fl_X8_62 rfl, ?_⟩
  refine List.forall_mem_cons.mpr ⟨ze_istore_n (k := 3) (by decide +kernel) rfl (by decide), ?_⟩
  refine List.forall_mem_cons.mpr ⟨ze_aload_n (k := 0) (by decide +kernel) rfl, ?_⟩
  refine List.forall_mem_cons.mpr ⟨ze_iconst (n := 0) (by decide +kernel) (by decide), ?_⟩
  refine List.forall_mem_cons.mpr ⟨ze_putZ (by decide +kernel) fl_X8_62 ⟨_, _, _, rfl, rfl, by decide +kernel⟩ rfl, ?_⟩
  refine List.forall_mem_cons.mpr ⟨ze_bipush (n := 25) (by decide +kernel) (by decide), ?_⟩
  refine List.forall_mem_cons.mpr ⟨ze_istore (by decide +kernel) (by decide), ?_⟩
  refine List.forall_mem_cons.mpr ⟨ze_iload (by decide +kernel), ?_⟩
  refine List.forall_mem_cons.mpr ⟨ze_bipush (n := 103) (by decide +kernel) (by decide), ?_⟩
  refine List.forall_mem_cons.mpr ⟨ze_icmp_ge (off := 49) (by decide +kernel) (by decide), ?_⟩
  refine List.forall_mem_cons.mpr ⟨ze_aload_n (k := 1) (by decide +kernel) rfl, ?_⟩
  refine List.forall_mem_cons.mpr ⟨ze_iload (by decide +kernel), ?_⟩
  refine List.forall_mem_cons.mpr ⟨ze_iaload (by decide +kernel), ?_⟩
  refine List.forall_mem_cons.mpr ⟨ze_iload_n (k := 2) (by decide +kernel) rfl, ?_⟩
  refine List.forall_mem_cons.mpr ⟨ze_iadd (by decide +kernel), ?_⟩
  refine List.forall_mem_cons.mpr ⟨ze_callS (idx := 66) (by decide +kernel) ml_X8_66 ms_X8_bounded, ?_⟩
  refine List.forall_mem_cons.mpr ⟨ze_istore (by decide +kernel) (by decide), ?_⟩
  refine List.forall_mem_cons.mpr ⟨ze_iload_n (k := 3) (by decide +kernel) rfl, ?_⟩
  refine List.forall_mem_cons.mpr ⟨ze_aload_n (k := 0) (by decide +kernel) rfl, ?_⟩
  refine List.forall_mem_cons.mpr ⟨ze_getR (by decide +kernel) fl_X8_36 rfl, ?_⟩
  refine List.forall_mem_cons.mpr ⟨ze_iload (by decide +kernel), ?_⟩
  refine List.forall_mem_cons.mpr ⟨ze_iaload (by decide +kernel), ?_⟩
  refine List.forall_mem_cons.mpr ⟨ze_iload (by decide +kernel), ?_⟩
  refine List.forall_mem_cons.mpr ⟨ze_icmp_eq (off := 7) (by decide +kernel) (by decide), ?_⟩
  refine List.forall_mem_cons.mpr ⟨ze_iconst (n := 1) (by decide +kernel) (by decide), ?_⟩
  refine List.forall_mem_cons.mpr ⟨ze_goto (off := 4) (by decide +kernel) (by decide), ?_⟩
  refine List.forall_mem_cons.mpr ⟨ze_iconst (n := 0) (by decide +kernel) (by decide), ?_⟩
  refine List.forall_mem_cons.mpr ⟨ze_ior (by decide +kernel), ?_⟩
  refine List.forall_mem_cons.mpr ⟨ze_istore_n (k := 3) (by decide +kernel) rfl (by decide), ?_⟩
  refine List.forall_mem_cons.mpr ⟨ze_aload_n (k := 0) (by decide +kernel) rfl, ?_⟩
  refine List.forall_mem_cons.mpr ⟨ze_getR (by decide +kernel) fl_X8_36 rfl, ?_⟩
  refine List.forall_mem_cons.mpr ⟨ze_iload (by decide +kernel), ?_⟩
  refine List.forall_mem_cons.mpr ⟨ze_iload (by decide +kernel), ?_⟩
  refine List.forall_mem_cons.mpr ⟨ze_iastore (by decide +kernel), ?_⟩
  refine List.forall_mem_cons.mpr ⟨ze_iinc (n := 1) (by decide +kernel) (by decide) (by decide), ?_⟩
  refine List.forall_mem_cons.mpr ⟨ze_goto (off := -50) (by decide +kernel) (by decide), ?_⟩
  refine List.forall_mem_cons.mpr ⟨ze_aload_n (k := 0) (by decide +kernel) rfl, ?_⟩
  refine List.forall_mem_cons.mpr ⟨ze_aload_n (k := 1) (by decide +kernel) rfl, ?_⟩
  refine List.forall_mem_cons.mpr ⟨ze_bipush (n := 12) (by decide +kernel) (by decide), ?_⟩
  refine List.forall_mem_cons.mpr ⟨ze_bipush (n := 25) (by decide +kernel) (by decide), ?_⟩
  refine List.forall_mem_cons.mpr ⟨ze_callV (idx := 70) (by decide +kernel) ml_X8_70 mv_X8_takesOver rfl, ?_⟩
  refine List.forall_mem_cons.mpr ⟨ze_if_ne (off := 7) (by decide +kernel) (by decide), ?_⟩
  refine List.forall_mem_cons.mpr ⟨ze_iload_n (k := 3) (by decide +kernel) rfl, ?_⟩
  refine List.forall_mem_cons.mpr ⟨ze_if_eq (off := 9) (by decide +kernel) (by decide), ?_⟩
  refine List.forall_mem_cons.mpr ⟨ze_iconst (n := 1) (by decide +kernel) (by decide), ?_⟩
  refine List.forall_mem_cons.mpr ⟨ze_istore_n (k := 3) (by decide +kernel) rfl (by decide), ?_⟩
  refine List.forall_mem_cons.mpr ⟨ze_aload_n (k := 0) (by decide +kernel) rfl, ?_⟩
  refine List.forall_mem_cons.mpr ⟨ze_callV (idx := 74) (by decide +kernel) ml_X8_74 mv_X8_reckonYears rfl, ?_⟩
  refine List.forall_mem_cons.mpr ⟨ze_iload_n (k := 3) (by decide +kernel) rfl, ?_⟩
  refine List.forall_mem_cons.mpr ⟨ze_if_eq (off := 18) (by decide +kernel) (by decide), ?_⟩
  refine List.forall_mem_cons.mpr ⟨ze_aload_n (k := 0) (by decide +kernel) rfl, ?_⟩
  refine List.forall_mem_cons.mpr ⟨ze_getR (by decide +kernel) fl_X8_47 rfl, ?_⟩
  refine List.forall_mem_cons.mpr ⟨ze_iconst (n := 0) (by decide +kernel) (by decide), ?_⟩
  refine List.forall_mem_cons.mpr ⟨ze_iconst (n := 0) (by decide +kernel) (by decide), ?_⟩
  refine List.forall_mem_cons.mpr ⟨ze_iastore (by decide +kernel), ?_⟩
  refine List.forall_mem_cons.mpr ⟨ze_aload_n (k := 0) (by decide +kernel) rfl, ?_⟩
  refine List.forall_mem_cons.mpr ⟨ze_getR (by decide +kernel) fl_X8_28 rfl, ?_⟩
  refine List.forall_mem_cons.mpr ⟨ze_iconst (n := 0) (by decide +kernel) (by decide), ?_⟩
  refine List.forall_mem_cons.mpr ⟨ze_putZ (by decide +kernel) fl_X8_77 ⟨_, _, _, rfl, rfl, by decide +kernel⟩ rfl, ?_⟩
  refine List.forall_mem_cons.mpr ⟨ze_aload_n (k := 0) (by decide +kernel) rfl, ?_⟩
  refine List.forall_mem_cons.mpr ⟨ze_aload_n (k := 1) (by decide +kernel) rfl, ?_⟩
  refine List.forall_mem_cons.mpr ⟨ze_bipush (n := 103) (by decide +kernel) (by decide), ?_⟩
  refine List.forall_mem_cons.mpr ⟨ze_bipush (n := 115) (by decide +kernel) (by decide), ?_⟩
  refine List.forall_mem_cons.mpr ⟨ze_callV (idx := 70) (by decide +kernel) ml_X8_70 mv_X8_takesOver rfl, ?_⟩
  refine List.forall_mem_cons.mpr ⟨ze_if_ne (off := 7) (by decide +kernel) (by decide), ?_⟩
  refine List.forall_mem_cons.mpr ⟨ze_iload_n (k := 3) (by decide +kernel) rfl, ?_⟩
  refine List.forall_mem_cons.mpr ⟨ze_if_eq (off := 18) (by decide +kernel) (by decide), ?_⟩
  refine List.forall_mem_cons.mpr ⟨ze_aload_n (k := 0) (by decide +kernel) rfl, ?_⟩
  refine List.forall_mem_cons.mpr ⟨ze_getR (by decide +kernel) fl_X8_47 rfl, ?_⟩
  refine List.forall_mem_cons.mpr ⟨ze_iconst (n := 1) (by decide +kernel) (by decide), ?_⟩
  refine List.forall_mem_cons.mpr ⟨ze_iconst (n := 0) (by decide +kernel) (by decide), ?_⟩
  refine List.forall_mem_cons.mpr ⟨ze_iastore (by decide +kernel), ?_⟩
  refine List.forall_mem_cons.mpr ⟨ze_aload_n (k := 0) (by decide +kernel) rfl, ?_⟩
  refine List.forall_mem_cons.mpr ⟨ze_getR (by decide +kernel) fl_X8_31 rfl, ?_⟩
  refine List.forall_mem_cons.mpr ⟨ze_iconst (n := 0) (by decide +kernel) (by decide), ?_⟩
  refine List.forall_mem_cons.mpr ⟨ze_putZ (by decide +kernel) fl_X8_77 ⟨_, _, _, rfl, rfl, by decide +kernel⟩ rfl, ?_⟩
  refine List.forall_mem_cons.mpr ⟨ze_vret (by decide +kernel) rfl, ?_⟩
  exact fun _ h => absurd h List.not_mem_nil
theorem vX8_look {l : Launch} {G : GT} {d : Nat} {av : List Value} {Q : Po} {σ : Mm} (cs : List (Nat × List Nat)) (k : Nat) (h : vc l G d mX8_look TX8_look Q cs k TX8_look (lv_args 0 av) [] σ) (hlen : (lg_sl av).length ≤ mX8_look.2.2.1 := by exact Nat.le_of_ble_eq_true rfl) : MW l G d mX8_look av σ Q := mw_vc TX8_look_ok mc_X8_look rfl hlen cs k rfl h
theorem wX8_look {l : Launch} {G : GT} {d : Nat} {Q : Po} {pc : Nat} {lv : Lv} {st : List Value} {σ : Mm} (cs : List (Nat × List Nat)) (k : Nat) (h : vc l G d mX8_look TX8_look Q cs k (drp TX8_look pc) lv st σ) (hpc : hdp (drp TX8_look pc) = pc := by rfl) : Wp l G d mX8_look pc lv st σ Q := wp_vc TX8_look_ok cs k hpc h
def TX8_reckonYears : List In := [(0, 1, zt_aload 0), (1, 4, zt_getR 16 6), (4, 5, zt_ic 1), (5, 6, zt_iaload), (6, 7, zt_istore 1), (7, 8, zt_aload 0), (8, 11, zt_getR 16 0), (11, 12, zt_ic 0), (12, 13, zt_aload 0), (13, 16, zt_getR 16 6), (16, 17, zt_ic 0), (17, 18, zt_iaload), (18, 19, zt_iastore), (19, 20, zt_aload 0), (20, 23, zt_getR 16 2), (23, 24, zt_ic 0), (24, 25, zt_aload 0), (25, 26, zt_ic 0), (26, 29, zt_callV mX8_priceOf 1 16), (29, 30, zt_iastore), (30, 31, zt_ic 1), (31, 32, zt_istore 2), (32, 33, zt_iload 2), (33, 34, zt_iload 1), (34, 37, zt_icmp_gt 123), (37, 38, zt_iload 2), (38, 40, zt_ic 12), (40, 43, zt_icmp_gt 123), (43, 44, zt_aload 0), (44, 47, zt_getR 16 1), (47, 48, zt_iload 2), (48, 49, zt_iload 2), (49, 50, zt_iload 1), (50, 53, zt_icmp_ne 64), (53, 54, zt_aload 0), (54, 57, zt_getR 16 0), (57, 58, zt_iload 2), (58, 59, zt_ic 1), (59, 60, zt_isub), (60, 61, zt_iaload), (61, 64, zt_goto 84), (64, 65, zt_aload 0), (65, 68, zt_getR 16 0), (68, 69, zt_iload 2), (69, 70, zt_ic 1), (70, 71, zt_isub), (71, 72, zt_iaload), (72, 73, zt_aload 0), (73, 76, zt_getR 16 7), (76, 78, zt_ic 12), (78, 79, zt_iload 2), (79, 80, zt_iadd), (80, 81, zt_iaload), (81, 84, zt_min), (84, 85, zt_iastore), (85, 86, zt_aload 0), (86, 89, zt_getR 16 0), (89, 90, zt_iload 2), (90, 91, zt_aload 0), (91, 94, zt_getR 16 0), (94, 95, zt_iload 2), (95, 96, zt_ic 1), (96, 97, zt_isub), (97, 98, zt_iaload), (98, 99, zt_aload 0), (99, 102, zt_getR 16 1), (102, 103, zt_iload 2), (103, 104, zt_iaload), (104, 105, zt_isub), (105, 106, zt_iastore), (106, 107, zt_aload 0), (107, 110, zt_getR 16 2), (110, 111, zt_iload 2), (111, 112, zt_aload 0), (112, 113, zt_iload 2), (113, 116, zt_callV mX8_priceOf 1 16), (116, 117, zt_iastore), (117, 120, zt_iinc 2 1), (120, 123, zt_goto 32), (123, 124, zt_vret)]
theorem TX8_reckonYears_ok : ∀ i ∈ TX8_reckonYears, Ent mX8_reckonYears i := by
  refine List.forall_mem_cons.mpr ⟨ze_aload_n (k := 0) (by decide +kernel) rfl, ?_⟩
  refine List.forall_mem_cons.mpr ⟨ze_getR (by decide +kernel) fl_X8_50 rfl, ?_⟩
  refine List.forall_mem_cons.mpr ⟨ze_iconst (n := 1) (by decide +kernel) (by decide), ?_⟩
  refine List.forall_mem_cons.mpr ⟨ze_iaload (by decide +kernel), ?_⟩
  refine List.forall_mem_cons.mpr ⟨ze_istore_n (k := 1) (by decide +kernel) rfl (by decide), ?_⟩
  refine List.forall_mem_cons.mpr ⟨ze_aload_n (k := 0) (by decide +kernel) rfl, ?_⟩
  refine List.forall_mem_cons.mpr ⟨ze_getR (by decide +kernel) fl_X8_9 rfl, ?_⟩
  refine List.forall_mem_cons.mpr ⟨ze_iconst (n := 0) (by decide +kernel) (by decide), ?_⟩
  refine List.forall_mem_cons.mpr ⟨ze_aload_n (k := 0) (by decide +kernel) rfl, ?_⟩
  refine List.forall_mem_cons.mpr ⟨ze_getR (by decide +kernel) fl_X8_50 rfl, ?_⟩
  refine List.forall_mem_cons.mpr ⟨ze_iconst (n := 0) (by decide +kernel) (by decide), ?_⟩
  refine List.forall_mem_cons.mpr ⟨ze_iaload (by decide +kernel), ?_⟩
  refine List.forall_mem_cons.mpr ⟨ze_iastore (by decide +kernel), ?_⟩
  refine List.forall_mem_cons.mpr ⟨ze_aload_n (k := 0) (by decide +kernel) rfl, ?_⟩
  refine List.forall_mem_cons.mpr ⟨ze_getR (by decide +kernel) fl_X8_18 rfl, ?_⟩
  refine List.forall_mem_cons.mpr ⟨ze_iconst (n := 0) (by decide +kernel) (by decide), ?_⟩
  refine List.forall_mem_cons.mpr ⟨ze_aload_n (k := 0) (by decide +kernel) rfl, ?_⟩
  refine List.forall_mem_cons.mpr ⟨ze_iconst (n := 0) (by decide +kernel) (by decide), ?_⟩
  refine List.forall_mem_cons.mpr ⟨ze_callV (idx := 82) (by decide +kernel) ml_X8_82 mv_X8_priceOf rfl, ?_⟩
  refine List.forall_mem_cons.mpr ⟨ze_iastore (by decide +kernel), ?_⟩
  refine List.forall_mem_cons.mpr ⟨ze_iconst (n := 1) (by decide +kernel) (by decide), ?_⟩
  refine List.forall_mem_cons.mpr ⟨ze_istore_n (k := 2) (by decide +kernel) rfl (by decide), ?_⟩
  refine List.forall_mem_cons.mpr ⟨ze_iload_n (k := 2) (by decide +kernel) rfl, ?_⟩
  refine List.forall_mem_cons.mpr ⟨ze_iload_n (k := 1) (by decide +kernel) rfl, ?_⟩
  refine List.forall_mem_cons.mpr ⟨ze_icmp_gt (off := 89) (by decide +kernel) (by decide), ?_⟩
  refine List.forall_mem_cons.mpr ⟨ze_iload_n (k := 2) (by decide +kernel) rfl, ?_⟩
  refine List.forall_mem_cons.mpr ⟨ze_bipush (n := 12) (by decide +kernel) (by decide), ?_⟩
  refine List.forall_mem_cons.mpr ⟨ze_icmp_gt (off := 83) (by decide +kernel) (by decide), ?_⟩
  refine List.forall_mem_cons.mpr ⟨ze_aload_n (k := 0) (by decide +kernel) rfl, ?_⟩
  refine List.forall_mem_cons.mpr ⟨ze_getR (by decide +kernel) fl_X8_15 rfl, ?_⟩
  refine List.forall_mem_cons.mpr ⟨ze_iload_n (k := 2) (by decide +kernel) rfl, ?_⟩
  refine List.forall_mem_cons.mpr ⟨ze_iload_n (k := 2) (by decide +kernel) rfl, ?_⟩
  refine List.forall_mem_cons.mpr ⟨ze_iload_n (k := 1) (by decide +kernel) rfl, ?_⟩
  refine List.forall_mem_cons.mpr ⟨ze_icmp_ne (off := 14) (by decide +kernel) (by decide), ?_⟩
  refine List.forall_mem_cons.mpr ⟨ze_aload_n (k := 0) (by decide +kernel) rfl, ?_⟩
  refine List.forall_mem_cons.mpr ⟨ze_getR (by decide +kernel) fl_X8_9 rfl, ?_⟩
  refine List.forall_mem_cons.mpr ⟨ze_iload_n (k := 2) (by decide +kernel) rfl, ?_⟩
  refine List.forall_mem_cons.mpr ⟨ze_iconst (n := 1) (by decide +kernel) (by decide), ?_⟩
  refine List.forall_mem_cons.mpr ⟨ze_isub (by decide +kernel), ?_⟩
  refine List.forall_mem_cons.mpr ⟨ze_iaload (by decide +kernel), ?_⟩
  refine List.forall_mem_cons.mpr ⟨ze_goto (off := 23) (by decide +kernel) (by decide), ?_⟩
  refine List.forall_mem_cons.mpr ⟨ze_aload_n (k := 0) (by decide +kernel) rfl, ?_⟩
  refine List.forall_mem_cons.mpr ⟨ze_getR (by decide +kernel) fl_X8_9 rfl, ?_⟩
  refine List.forall_mem_cons.mpr ⟨ze_iload_n (k := 2) (by decide +kernel) rfl, ?_⟩
  refine List.forall_mem_cons.mpr ⟨ze_iconst (n := 1) (by decide +kernel) (by decide), ?_⟩
  refine List.forall_mem_cons.mpr ⟨ze_isub (by decide +kernel), ?_⟩
  refine List.forall_mem_cons.mpr ⟨ze_iaload (by decide +kernel), ?_⟩
  refine List.forall_mem_cons.mpr ⟨ze_aload_n (k := 0) (by decide +kernel) rfl, ?_⟩
  refine List.forall_mem_cons.mpr ⟨ze_getR (by decide +kernel) fl_X8_36 rfl, ?_⟩
  refine List.forall_mem_cons.mpr ⟨ze_bipush (n := 12) (by decide +kernel) (by decide), ?_⟩
  refine List.forall_mem_cons.mpr ⟨ze_iload_n (k := 2) (by decide +kernel) rfl, ?_⟩
  refine List.forall_mem_cons.mpr ⟨ze_iadd (by decide +kernel), ?_⟩
  refine List.forall_mem_cons.mpr ⟨ze_iaload (by decide +kernel), ?_⟩
  refine List.forall_mem_cons.mpr ⟨ze_min (idx := 53) (by decide +kernel) ml_X8_53 jmn.1 jmn.2.1 jmn.2.2, ?_⟩
  refine List.forall_mem_cons.mpr ⟨ze_iastore (by decide +kernel), ?_⟩
  refine List.forall_mem_cons.mpr ⟨ze_aload_n (k := 0) (by decide +kernel) rfl, ?_⟩
  refine List.forall_mem_cons.mpr ⟨ze_getR (by decide +kernel) fl_X8_9 rfl, ?_⟩
  refine List.forall_mem_cons.mpr ⟨ze_iload_n (k := 2) (by decide +kernel) rfl, ?_⟩
  refine List.forall_mem_cons.mpr ⟨ze_aload_n (k := 0) (by decide +kernel) rfl, ?_⟩
  refine List.forall_mem_cons.mpr ⟨ze_getR (by decide +kernel) fl_X8_9 rfl, ?_⟩
  refine List.forall_mem_cons.mpr ⟨ze_iload_n (k := 2) (by decide +kernel) rfl, ?_⟩
  refine List.forall_mem_cons.mpr ⟨ze_iconst (n := 1) (by decide +kernel) (by decide), ?_⟩
  refine List.forall_mem_cons.mpr ⟨ze_isub (by decide +kernel), ?_⟩
  refine List.forall_mem_cons.mpr ⟨ze_iaload (by decide +kernel), ?_⟩
  refine List.forall_mem_cons.mpr ⟨ze_aload_n (k := 0) (by decide +kernel) rfl, ?_⟩
  refine List.forall_mem_cons.mpr ⟨ze_getR (by decide +kernel) fl_X8_15 rfl, ?_⟩
  refine List.forall_mem_cons.mpr ⟨ze_iload_n (k := 2) (by decide +kernel) rfl, ?_⟩
  refine List.forall_mem_cons.mpr ⟨ze_iaload (by decide +kernel), ?_⟩
  refine List.forall_mem_cons.mpr ⟨ze_isub (by decide +kernel), ?_⟩
  refine List.forall_mem_cons.mpr ⟨ze_iastore (by decide +kernel), ?_⟩
  refine List.forall_mem_cons.mpr ⟨ze_aload_n (k := 0) (by decide +kernel) rfl, ?_⟩
  refine List.forall_mem_cons.mpr ⟨ze_getR (by decide +kernel) fl_X8_18 rfl, ?_⟩
  refine List.forall_mem_cons.mpr ⟨ze_iload_n (k := 2) (by decide +kernel) rfl, ?_⟩
  refine List.forall_mem_cons.mpr ⟨ze_aload_n (k := 0) (by decide +kernel) rfl, ?_⟩
  refine List.forall_mem_cons.mpr ⟨ze_iload_n (k := 2) (by decide +kernel) rfl, ?_⟩
  refine List.forall_mem_cons.mpr ⟨ze_callV (idx := 82) (by decide +kernel) ml_X8_82 mv_X8_priceOf rfl, ?_⟩
  refine List.forall_mem_cons.mpr ⟨ze_iastore (by decide +kernel), ?_⟩
  refine List.forall_mem_cons.mpr ⟨ze_iinc (n := 1) (by decide +kernel) (by decide) (by decide), ?_⟩
  refine List.forall_mem_cons.mpr ⟨ze_goto (off := -88) (by decide +kernel) (by decide), ?_⟩
  refine List.forall_mem_cons.mpr ⟨ze_vret (by decide +kernel) rfl, ?_⟩
  exact fun _ h => absurd h List.not_mem_nil
theorem vX8_reckonYears {l : Launch} {G : GT} {d : Nat} {av : List Value} {Q : Po} {σ : Mm} (cs : List (Nat × List Nat)) (k : Nat) (h : vc l G d mX8_reckonYears TX8_reckonYears Q cs k TX8_reckonYears (lv_args 0 av) [] σ) (hlen : (lg_sl av).length ≤ mX8_reckonYears.2.2.1 := by exact Nat.le_of_ble_eq_true rfl) : MW l G d mX8_reckonYears av σ Q := mw_vc TX8_reckonYears_ok mc_X8_reckonYears rfl hlen cs k rfl h
theorem wX8_reckonYears {l : Launch} {G : GT} {d : Nat} {Q : Po} {pc : Nat} {lv : Lv} {st : List Value} {σ : Mm} (cs : List (Nat × List Nat)) (k : Nat) (h : vc l G d mX8_reckonYears TX8_reckonYears Q cs k (drp TX8_reckonYears pc) lv st σ) (hpc : hdp (drp TX8_reckonYears pc) = pc := by rfl) : Wp l G d mX8_reckonYears pc lv st σ Q := wp_vc TX8_reckonYears_ok cs k hpc h
