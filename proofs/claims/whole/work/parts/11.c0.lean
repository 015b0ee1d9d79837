def TX0_deedOf : List In := [(0, 1, zt_aload 0), (1, 3, zt_ic 103), (3, 4, zt_iload 1), (4, 5, zt_iadd), (5, 6, zt_iald), (6, 7, zt_ic 2), (7, 8, zt_iload 2), (8, 9, zt_imul), (9, 10, zt_ishr), (10, 11, zt_ic 3), (11, 12, zt_iand), (12, 13, zt_iret)]
theorem TX0_deedOf_ok : ∀ i ∈ TX0_deedOf, Ent mX0_deedOf i := by
  refine List.forall_mem_cons.mpr ⟨ze_aload_n (k := 0) (by decide +kernel) rfl, ?_⟩
  refine List.forall_mem_cons.mpr ⟨ze_bipush (n := 103) (by decide +kernel) (by decide), ?_⟩
  refine List.forall_mem_cons.mpr ⟨ze_iload_n (k := 1) (by decide +kernel) rfl, ?_⟩
  refine List.forall_mem_cons.mpr ⟨ze_iadd (by decide +kernel), ?_⟩
  refine List.forall_mem_cons.mpr ⟨ze_iald (by decide +kernel), ?_⟩
  refine List.forall_mem_cons.mpr ⟨ze_iconst (n := 2) (by decide +kernel) (by decide), ?_⟩
  refine List.forall_mem_cons.mpr ⟨ze_iload_n (k := 2) (by decide +kernel) rfl, ?_⟩
  refine List.forall_mem_cons.mpr ⟨ze_imul (by decide +kernel), ?_⟩
  refine List.forall_mem_cons.mpr ⟨ze_ishr (by decide +kernel), ?_⟩
  refine List.forall_mem_cons.mpr ⟨ze_iconst (n := 3) (by decide +kernel) (by decide), ?_⟩
  refine List.forall_mem_cons.mpr ⟨ze_iand (by decide +kernel), ?_⟩
  refine List.forall_mem_cons.mpr ⟨ze_iret (by decide +kernel) rfl, ?_⟩
  exact fun _ h => absurd h List.not_mem_nil
theorem vX0_deedOf {l : Launch} {G : GT} {d : Nat} {av : List Value} {Q : Po} {σ : Mm} (cs : List (Nat × List Nat)) (k : Nat) (h : vc l G d mX0_deedOf TX0_deedOf Q cs k TX0_deedOf (lv_args 0 av) [] σ) (hlen : (lg_sl av).length ≤ mX0_deedOf.2.2.1 := by exact Nat.le_of_ble_eq_true rfl) : MW l G d mX0_deedOf av σ Q := mw_vc TX0_deedOf_ok mc_X0_deedOf rfl hlen cs k rfl h
theorem wX0_deedOf {l : Launch} {G : GT} {d : Nat} {Q : Po} {pc : Nat} {lv : Lv} {st : List Value} {σ : Mm} (cs : List (Nat × List Nat)) (k : Nat) (h : vc l G d mX0_deedOf TX0_deedOf Q cs k (drp TX0_deedOf pc) lv st σ) (hpc : hdp (drp TX0_deedOf pc) = pc := by rfl) : Wp l G d mX0_deedOf pc lv st σ Q := wp_vc TX0_deedOf_ok cs k hpc h
def TX0_setDeed : List In := [(0, 1, zt_aload 0), (1, 3, zt_ic 103), (3, 4, zt_iload 1), (4, 5, zt_iadd), (5, 6, zt_aload 0), (6, 8, zt_ic 103), (8, 9, zt_iload 1), (9, 10, zt_iadd), (10, 11, zt_iald), (11, 12, zt_ic 3), (12, 13, zt_ic 2), (13, 14, zt_iload 2), (14, 15, zt_imul), (15, 16, zt_ishl), (16, 17, zt_ic (-1)), (17, 18, zt_ixor), (18, 19, zt_iand), (19, 20, zt_iload 3), (20, 21, zt_ic 2), (21, 22, zt_iload 2), (22, 23, zt_imul), (23, 24, zt_ishl), (24, 25, zt_ior), (25, 26, zt_iastoreF), (26, 27, zt_vret)]
theorem TX0_setDeed_ok : ∀ i ∈ TX0_setDeed, Ent mX0_setDeed i := by
  refine List.forall_mem_cons.mpr ⟨ze_aload_n (k := 0) (by decide +kernel) rfl, ?_⟩
  refine List.forall_mem_cons.mpr ⟨ze_bipush (n := 103) (by decide +kernel) (by decide), ?_⟩
  refine List.forall_mem_cons.mpr ⟨ze_iload_n (k := 1) (by decide +kernel) rfl, ?_⟩
  refine List.forall_mem_cons.mpr ⟨ze_iadd (by decide +kernel), ?_⟩
  refine List.forall_mem_cons.mpr ⟨ze_aload_n (k := 0) (by decide +kernel) rfl, ?_⟩
  refine List.forall_mem_cons.mpr ⟨ze_bipush (n := 103) (by decide +kernel) (by decide), ?_⟩
  refine List.forall_mem_cons.mpr ⟨ze_iload_n (k := 1) (by decide +kernel) rfl, ?_⟩
  refine List.forall_mem_cons.mpr ⟨ze_iadd (by decide +kernel), ?_⟩
  refine List.forall_mem_cons.mpr ⟨ze_iald (by decide +kernel), ?_⟩
  refine List.forall_mem_cons.mpr ⟨ze_iconst (n := 3) (by decide +kernel) (by decide), ?_⟩
  refine List.forall_mem_cons.mpr ⟨ze_iconst (n := 2) (by decide +kernel) (by decide), ?_⟩
  refine List.forall_mem_cons.mpr ⟨ze_iload_n (k := 2) (by decide +kernel) rfl, ?_⟩
  refine List.forall_mem_cons.mpr ⟨ze_imul (by decide +kernel), ?_⟩
  refine List.forall_mem_cons.mpr ⟨ze_ishl (by decide +kernel), ?_⟩
  refine List.forall_mem_cons.mpr ⟨ze_iconst (n := -1) (by decide +kernel) (by decide), ?_⟩
  refine List.forall_mem_cons.mpr ⟨ze_ixor (by decide +kernel), ?_⟩
  refine List.forall_mem_cons.mpr ⟨ze_iand (by decide +kernel), ?_⟩
  refine List.forall_mem_cons.mpr ⟨ze_iload_n (k := 3) (by decide +kernel) rfl, ?_⟩
  refine List.forall_mem_cons.mpr ⟨ze_iconst (n := 2) (by decide +kernel) (by decide), ?_⟩
  refine List.forall_mem_cons.mpr ⟨ze_iload_n (k := 2) (by decide +kernel) rfl, ?_⟩
  refine List.forall_mem_cons.mpr ⟨ze_imul (by decide +kernel), ?_⟩
  refine List.forall_mem_cons.mpr ⟨ze_ishl (by decide +kernel), ?_⟩
  refine List.forall_mem_cons.mpr ⟨ze_ior (by decide +kernel), ?_⟩
  refine List.forall_mem_cons.mpr ⟨ze_iastoreF (by decide +kernel), ?_⟩
  refine List.forall_mem_cons.mpr ⟨ze_vret (by decide +kernel) rfl, ?_⟩
  exact fun _ h => absurd h List.not_mem_nil
theorem vX0_setDeed {l : Launch} {G : GT} {d : Nat} {av : List Value} {Q : Po} {σ : Mm} (cs : List (Nat × List Nat)) (k : Nat) (h : vc l G d mX0_setDeed TX0_setDeed Q cs k TX0_setDeed (lv_args 0 av) [] σ) (hlen : (lg_sl av).length ≤ mX0_setDeed.2.2.1 := by exact Nat.le_of_ble_eq_true rfl) : MW l G d mX0_setDeed av σ Q := mw_vc TX0_setDeed_ok mc_X0_setDeed rfl hlen cs k rfl h
theorem wX0_setDeed {l : Launch} {G : GT} {d : Nat} {Q : Po} {pc : Nat} {lv : Lv} {st : List Value} {σ : Mm} (cs : List (Nat × List Nat)) (k : Nat) (h : vc l G d mX0_setDeed TX0_setDeed Q cs k (drp TX0_setDeed pc) lv st σ) (hpc : hdp (drp TX0_setDeed pc) = pc := by rfl) : Wp l G d mX0_setDeed pc lv st σ Q := wp_vc TX0_setDeed_ok cs k hpc h
def TX1_pour : List In := [(0, 1, zt_aload 1), (1, 2, zt_ic 0), (2, 3, zt_iald), (3, 4, zt_istoreF 3), (4, 5, zt_aload 1), (5, 6, zt_ic 1), (6, 7, zt_iald), (7, 9, zt_istoreF 4), (9, 10, zt_aload 0), (10, 13, zt_getL 10 0), (13, 14, zt_ic 0), (14, 17, zt_callSF mJ7_fill_53178 2), (17, 18, zt_aload 0), (18, 21, zt_getL 10 0), (21, 22, zt_iload 3), (22, 24, zt_iload 4), (24, 27, zt_callSF mX8_nodeOf 2), (27, 29, zt_ic (1000000000 : Int32)), (29, 30, zt_iastoreF), (30, 31, zt_iload 3), (31, 33, zt_istoreF 5), (33, 35, zt_iload 5), (35, 36, zt_aload 0), (36, 39, zt_getL 10 1), (39, 40, zt_ic 1), (40, 41, zt_iald), (41, 44, zt_icmp_ge 157), (44, 46, zt_iload 5), (46, 48, zt_iload 4), (48, 51, zt_callSF mX8_nodeOf 2), (51, 53, zt_istoreF 6), (53, 55, zt_iload 6), (55, 57, zt_istoreF 7), (57, 59, zt_iload 7), (59, 61, zt_iload 6), (61, 63, zt_iload 5), (63, 64, zt_iadd), (64, 65, zt_iload 3), (65, 66, zt_isub), (66, 69, zt_icmp_gt 151), (69, 70, zt_aload 2), (70, 73, zt_getL 15 2), (73, 75, zt_iload 7), (75, 76, zt_iald), (76, 79, zt_if_ne 145), (79, 80, zt_aload 0), (80, 83, zt_getL 10 0), (83, 85, zt_iload 7), (85, 86, zt_iald), (86, 87, zt_i2l), (87, 88, zt_aload 0), (88, 91, zt_getL 10 1), (91, 93, zt_ic 6), (93, 94, zt_iald), (94, 95, zt_i2l), (95, 96, zt_lmul), (96, 99, zt_lc (100 : Int64)), (99, 100, zt_ldiv), (100, 101, zt_l2i), (101, 103, zt_istoreF 8), (103, 104, zt_aload 0), (104, 107, zt_getL 10 0), (107, 109, zt_iload 7), (109, 111, zt_iload 5), (111, 112, zt_iadd), (112, 113, zt_ic 2), (113, 114, zt_iadd), (114, 115, zt_dup2), (115, 116, zt_iald), (116, 118, zt_iload 8), (118, 119, zt_iadd), (119, 120, zt_iastoreF), (120, 121, zt_aload 0), (121, 124, zt_getL 10 0), (124, 126, zt_iload 7), (126, 128, zt_iload 5), (128, 129, zt_iadd), (129, 130, zt_ic 1), (130, 131, zt_iadd), (131, 132, zt_dup2), (132, 133, zt_iald), (133, 134, zt_aload 0), (134, 137, zt_getL 10 0), (137, 139, zt_iload 7), (139, 140, zt_iald), (140, 142, zt_iload 8), (142, 143, zt_isub), (143, 144, zt_iadd), (144, 145, zt_iastoreF), (145, 148, zt_iincF 7 1), (148, 151, zt_goto 57), (151, 154, zt_iincF 5 1), (154, 157, zt_goto 33), (157, 158, zt_vret)]
theorem TX1_pour_ok : ∀ i ∈ TX1_pour, Ent mX1_pour i := by
  refine List.forall_mem_cons.mpr ⟨ze_aload_n (k := 1) (by decide +kernel) rfl, ?_⟩
  refine List.forall_mem_cons.mpr ⟨ze_iconst (n := 0) (by decide +kernel) (by decide), ?_⟩
  refine List.forall_mem_cons.mpr ⟨ze_iald (by decide +kernel), ?_⟩
  refine List.forall_mem_cons.mpr ⟨ze_istoreF_n (k := 3) (by decide +kernel) rfl (by decide), ?_⟩
  refine List.forall_mem_cons.mpr ⟨ze_aload_n (k := 1) (by decide +kernel) rfl, ?_⟩
  refine List.forall_mem_cons.mpr ⟨ze_iconst (n := 1) (by decide +kernel) (by decide), ?_⟩
  refine List.forall_mem_cons.mpr ⟨ze_iald (by decide +kernel), ?_⟩
  refine List.forall_mem_cons.mpr ⟨ze_istoreF (by decide +kernel) (by decide), ?_⟩
  refine List.forall_mem_cons.mpr ⟨ze_aload_n (k := 0) (by decide +kernel) rfl, ?_⟩
  refine List.forall_mem_cons.mpr ⟨ze_getL (by decide +kernel) fl_X1_9 rfl (by decide), ?_⟩
  refine List.forall_mem_cons.mpr ⟨ze_iconst (n := 0) (by decide +kernel) (by decide), ?_⟩
  refine List.forall_mem_cons.mpr ⟨ze_callSF (idx := 20) (by decide +kernel) ml_X1_20 ms_J7_fill_53178, ?_⟩
  refine List.forall_mem_cons.mpr ⟨ze_aload_n (k := 0) (by decide +kernel) rfl, ?_⟩
  refine List.forall_mem_cons.mpr ⟨ze_getL (by decide +kernel) fl_X1_9 rfl (by decide), ?_⟩
  refine List.forall_mem_cons.mpr ⟨ze_iload_n (k := 3) (by decide +kernel) rfl, ?_⟩
  refine List.forall_mem_cons.mpr ⟨ze_iload (by decide +kernel), ?_⟩
  refine List.forall_mem_cons.mpr ⟨ze_callSF (idx := 26) (by decide +kernel) ml_X1_26 ms_X8_nodeOf, ?_⟩
  refine List.forall_mem_cons.mpr ⟨ze_ldc (i := 30) (by decide +kernel) kc_X1_30, ?_⟩
  refine List.forall_mem_cons.mpr ⟨ze_iastoreF (by decide +kernel), ?_⟩
  refine List.forall_mem_cons.mpr ⟨ze_iload_n (k := 3) (by decide +kernel) rfl, ?_⟩
  refine List.forall_mem_cons.mpr ⟨ze_istoreF (by decide +kernel) (by decide), ?_⟩
  refine List.forall_mem_cons.mpr ⟨ze_iload (by decide +kernel), ?_⟩
  refine List.forall_mem_cons.mpr ⟨ze_aload_n (k := 0) (by decide +kernel) rfl, ?_⟩
  refine List.forall_mem_cons.mpr ⟨ze_getL (by decide +kernel) fl_X1_15 rfl (by decide), ?_⟩
  refine List.forall_mem_cons.mpr ⟨ze_iconst (n := 1) (by decide +kernel) (by decide), ?_⟩
  refine List.forall_mem_cons.mpr ⟨ze_iald (by decide +kernel), ?_⟩
  refine List.forall_mem_cons.mpr ⟨ze_icmp_ge (off := 116) (by decide +kernel) (by decide), ?_⟩
  refine List.forall_mem_cons.mpr ⟨ze_iload (by decide +kernel), ?_⟩
  refine List.forall_mem_cons.mpr ⟨ze_iload (by decide +kernel), ?_⟩
  refine List.forall_mem_cons.mpr ⟨ze_callSF (idx := 26) (by decide +kernel) ml_X1_26 ms_X8_nodeOf, ?_⟩
  refine List.forall_mem_cons.mpr ⟨ze_istoreF (by decide +kernel) (by decide), ?_⟩
  refine List.forall_mem_cons.mpr ⟨ze_iload (by decide +kernel), ?_⟩
  refine List.forall_mem_cons.mpr ⟨ze_istoreF (by decide +kernel) (by decide), ?_⟩
  refine List.forall_mem_cons.mpr ⟨ze_iload (by decide +kernel), ?_⟩
  refine List.forall_mem_cons.mpr ⟨ze_iload (by decide +kernel), ?_⟩
  refine List.forall_mem_cons.mpr ⟨ze_iload (by decide +kernel), ?_⟩
  refine List.forall_mem_cons.mpr ⟨ze_iadd (by decide +kernel), ?_⟩
  refine List.forall_mem_cons.mpr ⟨ze_iload_n (k := 3) (by decide +kernel) rfl, ?_⟩
  refine List.forall_mem_cons.mpr ⟨ze_isub (by decide +kernel), ?_⟩
  refine List.forall_mem_cons.mpr ⟨ze_icmp_gt (off := 85) (by decide +kernel) (by decide), ?_⟩
  refine List.forall_mem_cons.mpr ⟨ze_aload_n (k := 2) (by decide +kernel) rfl, ?_⟩
  refine List.forall_mem_cons.mpr ⟨ze_getL (by decide +kernel) fl_X1_33 rfl (by decide), ?_⟩
  refine List.forall_mem_cons.mpr ⟨ze_iload (by decide +kernel), ?_⟩
  refine List.forall_mem_cons.mpr ⟨ze_iald (by decide +kernel), ?_⟩
  refine List.forall_mem_cons.mpr ⟨ze_if_ne (off := 69) (by decide +kernel) (by decide), ?_⟩
  refine List.forall_mem_cons.mpr ⟨ze_aload_n (k := 0) (by decide +kernel) rfl, ?_⟩
  refine List.forall_mem_cons.mpr ⟨ze_getL (by decide +kernel) fl_X1_9 rfl (by decide), ?_⟩
  refine List.forall_mem_cons.mpr ⟨ze_iload (by decide +kernel), ?_⟩
  refine List.forall_mem_cons.mpr ⟨ze_iald (by decide +kernel), ?_⟩
  refine List.forall_mem_cons.mpr ⟨ze_i2l (by decide +kernel), ?_⟩
  refine List.forall_mem_cons.mpr ⟨ze_aload_n (k := 0) (by decide +kernel) rfl, ?_⟩
  refine List.forall_mem_cons.mpr ⟨ze_getL (by decide +kernel) fl_X1_15 rfl (by decide), ?_⟩
  refine List.forall_mem_cons.mpr ⟨ze_bipush (n := 6) (by decide +kernel) (by decide), ?_⟩
  refine List.forall_mem_cons.mpr ⟨ze_iald (by decide +kernel), ?_⟩
  refine List.forall_mem_cons.mpr ⟨ze_i2l (by decide +kernel), ?_⟩
  refine List.forall_mem_cons.mpr ⟨ze_lmul (by decide +kernel), ?_⟩
  refine List.forall_mem_cons.mpr ⟨ze_ldc2 (i := 38) (by decide +kernel) kc_X1_38, ?_⟩
  refine List.forall_mem_cons.mpr ⟨ze_ldiv (by decide +kernel), ?_⟩
  refine List.forall_mem_cons.mpr ⟨ze_l2i (by decide +kernel), ?_⟩
  refine List.forall_mem_cons.mpr ⟨ze_istoreF (by decide +kernel) (by decide), ?_⟩
  refine List.forall_mem_cons.mpr ⟨ze_aload_n (k := 0) (by decide +kernel) rfl, ?_⟩
  refine List.forall_mem_cons.mpr ⟨ze_getL (by decide +kernel) fl_X1_9 rfl (by decide), ?_⟩
  refine List.forall_mem_cons.mpr ⟨ze_iload (by decide +kernel), ?_⟩
  refine List.forall_mem_cons.mpr ⟨ze_iload (by decide +kernel), ?_⟩
  refine List.forall_mem_cons.mpr ⟨ze_iadd (by decide +kernel), ?_⟩
  refine List.forall_mem_cons.mpr ⟨ze_iconst (n := 2) (by decide +kernel) (by decide), ?_⟩
  refine List.forall_mem_cons.mpr ⟨ze_iadd (by decide +kernel), ?_⟩
  refine List.forall_mem_cons.mpr ⟨ze_dup2 (by decide +kernel), ?_⟩
  refine List.forall_mem_cons.mpr ⟨ze_iald (by decide +kernel), ?_⟩
  refine List.forall_mem_cons.mpr ⟨ze_iload (by decide +kernel), ?_⟩
  refine List.forall_mem_cons.mpr ⟨ze_iadd (by decide +kernel), ?_⟩
  refine List.forall_mem_cons.mpr ⟨ze_iastoreF (by decide +kernel), ?_⟩
  refine List.forall_mem_cons.mpr ⟨ze_aload_n (k := 0) (by decide +kernel) rfl, ?_⟩
  refine List.forall_mem_cons.mpr ⟨ze_getL (by decide +kernel) fl_X1_9 rfl (by decide), ?_⟩
  refine List.forall_mem_cons.mpr ⟨ze_iload (by decide +kernel), ?_⟩
  refine List.forall_mem_cons.mpr ⟨ze_iload (by decide +kernel), ?_⟩
  refine List.forall_mem_cons.mpr ⟨ze_iadd (by decide +kernel), ?_⟩
  refine List.forall_mem_cons.mpr ⟨ze_iconst (n := 1) (by decide +kernel) (by decide), ?_⟩
  refine List.forall_mem_cons.mpr ⟨ze_iadd (by decide +kernel), ?_⟩
  refine List.forall_mem_cons.mpr ⟨ze_dup2 (by decide +kernel), ?_⟩
  refine List.forall_mem_cons.mpr ⟨ze_iald (by decide +kernel), ?_⟩
  refine List.forall_mem_cons.mpr ⟨ze_aload_n (k := 0) (by decide +kernel) rfl, ?_⟩
  refine List.forall_mem_cons.mpr ⟨ze_getL (by decide +kernel) fl_X1_9 rfl (by decide), ?_⟩
  refine List.forall_mem_cons.mpr ⟨ze_iload (by decide +kernel), ?_⟩
  refine List.forall_mem_cons.mpr ⟨ze_iald (by decide +kernel), ?_⟩
  refine List.forall_mem_cons.mpr ⟨ze_iload (by decide +kernel), ?_⟩
  refine List.forall_mem_cons.mpr ⟨ze_isub (by decide +kernel), ?_⟩
  refine List.forall_mem_cons.mpr ⟨ze_iadd (by decide +kernel), ?_⟩
  refine List.forall_mem_cons.mpr ⟨ze_iastoreF (by decide +kernel), ?_⟩
  refine List.forall_mem_cons.mpr ⟨ze_iincF (n := 1) (by decide +kernel) (by decide) (by decide), ?_⟩
  refine List.forall_mem_cons.mpr ⟨ze_goto (off := -91) (by decide +kernel) (by decide), ?_⟩
  refine List.forall_mem_cons.mpr ⟨ze_iincF (n := 1) (by decide +kernel) (by decide) (by decide), ?_⟩
  refine List.forall_mem_cons.mpr ⟨ze_goto (off := -121) (by decide +kernel) (by decide), ?_⟩
  refine List.forall_mem_cons.mpr ⟨ze_vret (by decide +kernel) rfl, ?_⟩
  exact fun _ h => absurd h List.not_mem_nil
theorem vX1_pour {l : Launch} {G : GT} {d : Nat} {av : List Value} {Q : Po} {σ : Mm} (cs : List (Nat × List Nat)) (k : Nat) (h : vc l G d mX1_pour TX1_pour Q cs k TX1_pour (lv_args 0 av) [] σ) (hlen : (lg_sl av).length ≤ mX1_pour.2.2.1 := by exact Nat.le_of_ble_eq_true rfl) : MW l G d mX1_pour av σ Q := mw_vc TX1_pour_ok mc_X1_pour rfl hlen cs k rfl h
theorem wX1_pour {l : Launch} {G : GT} {d : Nat} {Q : Po} {pc : Nat} {lv : Lv} {st : List Value} {σ : Mm} (cs : List (Nat × List Nat)) (k : Nat) (h : vc l G d mX1_pour TX1_pour Q cs k (drp TX1_pour pc) lv st σ) (hpc : hdp (drp TX1_pour pc) = pc := by rfl) : Wp l G d mX1_pour pc lv st σ Q := wp_vc TX1_pour_ok cs k hpc h
def TX1_stopped : List In := [(0, 1, zt_ic 0), (1, 3, zt_istoreF 4), (3, 4, zt_ic 0), (4, 6, zt_istoreF 5), (6, 8, zt_iload 5), (8, 9, zt_iload 2), (9, 12, zt_icmp_gt 53), (12, 13, zt_iload 2), (13, 15, zt_iload 5), (15, 18, zt_callSF mX8_nodeOf 2), (18, 20, zt_istoreF 6), (20, 22, zt_iload 4), (22, 23, zt_aload 1), (23, 26, zt_getL 15 2), (26, 28, zt_iload 6), (28, 29, zt_iald), (29, 30, zt_iload 3), (30, 33, zt_icmp_ne 43), (33, 34, zt_aload 0), (34, 37, zt_getL 10 0), (37, 39, zt_iload 6), (39, 40, zt_iald), (40, 43, zt_goto 44), (43, 44, zt_ic 0), (44, 45, zt_iadd), (45, 47, zt_istoreF 4), (47, 50, zt_iincF 5 1), (50, 53, zt_goto 6), (53, 55, zt_iload 4), (55, 56, zt_iret)]
theorem TX1_stopped_ok : ∀ i ∈ TX1_stopped, Ent mX1_stopped i := by
  refine List.forall_mem_cons.mpr ⟨ze_iconst (n := 0) (by decide +kernel) (by decide), ?_⟩
  refine List.forall_mem_cons.mpr ⟨ze_istoreF (by decide +kernel) (by decide), ?_⟩
  refine List.forall_mem_cons.mpr ⟨ze_iconst (n := 0) (by decide +kernel) (by decide), ?_⟩
  refine List.forall_mem_cons.mpr ⟨ze_istoreF (by decide +kernel) (by decide), ?_⟩
  refine List.forall_mem_cons.mpr ⟨ze_iload (by decide +kernel), ?_⟩
  refine List.forall_mem_cons.mpr ⟨ze_iload_n (k := 2) (by decide +kernel) rfl, ?_⟩
  refine List.forall_mem_cons.mpr ⟨ze_icmp_gt (off := 44) (by decide +kernel) (by decide), ?_⟩
  refine List.forall_mem_cons.mpr ⟨ze_iload_n (k := 2) (by decide +kernel) rfl, ?_⟩
  refine List.forall_mem_cons.mpr ⟨ze_iload (by decide +kernel), ?_⟩
  refine List.forall_mem_cons.mpr ⟨ze_callSF (idx := 26) (by decide +kernel) ml_X1_26 ms_X8_nodeOf, ?_⟩
  refine List.forall_mem_cons.mpr ⟨ze_istoreF (by decide +kernel) (by decide), ?_⟩
  refine List.forall_mem_cons.mpr ⟨ze_iload (by decide +kernel), ?_⟩
  refine List.forall_mem_cons.mpr ⟨ze_aload_n (k := 1) (by decide +kernel) rfl, ?_⟩
  refine List.forall_mem_cons.mpr ⟨ze_getL (by decide +kernel) fl_X1_33 rfl (by decide), ?_⟩
  refine List.forall_mem_cons.mpr ⟨ze_iload (by decide +kernel), ?_⟩
  refine List.forall_mem_cons.mpr ⟨ze_iald (by decide +kernel), ?_⟩
  refine List.forall_mem_cons.mpr ⟨ze_iload_n (k := 3) (by decide +kernel) rfl, ?_⟩
  refine List.forall_mem_cons.mpr ⟨ze_icmp_ne (off := 13) (by decide +kernel) (by decide), ?_⟩
  refine List.forall_mem_cons.mpr ⟨ze_aload_n (k := 0) (by decide +kernel) rfl, ?_⟩
  refine List.forall_mem_cons.mpr ⟨ze_getL (by decide +kernel) fl_X1_9 rfl (by decide), ?_⟩
  refine List.forall_mem_cons.mpr ⟨ze_iload (by decide +kernel), ?_⟩
  refine List.forall_mem_cons.mpr ⟨ze_iald (by decide +kernel), ?_⟩
  refine List.forall_mem_cons.mpr ⟨ze_goto (off := 4) (by decide +kernel) (by decide), ?_⟩
  refine List.forall_mem_cons.mpr ⟨ze_iconst (n := 0) (by decide +kernel) (by decide), ?_⟩
  refine List.forall_mem_cons.mpr ⟨ze_iadd (by decide +kernel), ?_⟩
  refine List.forall_mem_cons.mpr ⟨ze_istoreF (by decide +kernel) (by decide), ?_⟩
  refine List.forall_mem_cons.mpr ⟨ze_iincF (n := 1) (by decide +kernel) (by decide) (by decide), ?_⟩
  refine List.forall_mem_cons.mpr ⟨ze_goto (off := -44) (by decide +kernel) (by decide), ?_⟩
  refine List.forall_mem_cons.mpr ⟨ze_iload (by decide +kernel), ?_⟩
  refine List.forall_mem_cons.mpr ⟨ze_iret (by decide +kernel) rfl, ?_⟩
  exact fun _ h => absurd h List.not_mem_nil
theorem vX1_stopped {l : Launch} {G : GT} {d : Nat} {av : List Value} {Q : Po} {σ : Mm} (cs : List (Nat × List Nat)) (k : Nat) (h : vc l G d mX1_stopped TX1_stopped Q cs k TX1_stopped (lv_args 0 av) [] σ) (hlen : (lg_sl av).length ≤ mX1_stopped.2.2.1 := by exact Nat.le_of_ble_eq_true rfl) : MW l G d mX1_stopped av σ Q := mw_vc TX1_stopped_ok mc_X1_stopped rfl hlen cs k rfl h
theorem wX1_stopped {l : Launch} {G : GT} {d : Nat} {Q : Po} {pc : Nat} {lv : Lv} {st : List Value} {σ : Mm} (cs : List (Nat × List Nat)) (k : Nat) (h : vc l G d mX1_stopped TX1_stopped Q cs k (drp TX1_stopped pc) lv st σ) (hpc : hdp (drp TX1_stopped pc) = pc := by rfl) : Wp l G d mX1_stopped pc lv st σ Q := wp_vc TX1_stopped_ok cs k hpc h
def TX1_atTheEnd : List In := [(0, 1, zt_aload 0), (1, 4, zt_getL 10 1), (4, 5, zt_ic 1), (5, 6, zt_iald), (6, 7, zt_istoreF 1), (7, 8, zt_ic 0), (8, 9, zt_istoreF 2), (9, 10, zt_ic 0), (10, 11, zt_istoreF 3), (11, 12, zt_iload 3), (12, 13, zt_iload 1), (13, 16, zt_icmp_gt 35), (16, 17, zt_iload 2), (17, 18, zt_aload 0), (18, 21, zt_getL 10 0), (21, 22, zt_iload 1), (22, 23, zt_iload 3), (23, 26, zt_callSF mX8_nodeOf 2), (26, 27, zt_iald), (27, 28, zt_iadd), (28, 29, zt_istoreF 2), (29, 32, zt_iincF 3 1), (32, 35, zt_goto 11), (35, 36, zt_iload 2), (36, 37, zt_iret)]
theorem TX1_atTheEnd_ok : ∀ i ∈ TX1_atTheEnd, Ent mX1_atTheEnd i := by
  refine List.forall_mem_cons.mpr ⟨ze_aload_n (k := 0) (by decide +kernel) rfl, ?_⟩
  refine List.forall_mem_cons.mpr ⟨ze_getL (by decide +kernel) fl_X1_15 rfl (by decide), ?_⟩
  refine List.forall_mem_cons.mpr ⟨ze_iconst (n := 1) (by decide +kernel) (by decide), ?_⟩
  refine List.forall_mem_cons.mpr ⟨ze_iald (by decide +kernel), ?_⟩
  refine List.forall_mem_cons.mpr ⟨ze_istoreF_n (k := 1) (by decide +kernel) rfl (by decide), ?_⟩
  refine List.forall_mem_cons.mpr ⟨ze_iconst (n := 0) (by decide +kernel) (by decide), ?_⟩
  refine List.forall_mem_cons.mpr ⟨ze_istoreF_n (k := 2) (by decide +kernel) rfl (by decide), ?_⟩
  refine List.forall_mem_cons.mpr ⟨ze_iconst (n := 0) (by decide +kernel) (by decide), ?_⟩
  refine List.forall_mem_cons.mpr ⟨ze_istoreF_n (k := 3) (by decide +kernel) rfl (by decide), ?_⟩
  refine List.forall_mem_cons.mpr ⟨ze_iload_n (k := 3) (by decide +kernel) rfl, ?_⟩
  refine List.forall_mem_cons.mpr ⟨ze_iload_n (k := 1) (by decide +kernel) rfl, ?_⟩
  refine List.forall_mem_cons.mpr ⟨ze_icmp_gt (off := 22) (by decide +kernel) (by decide), ?_⟩
  refine List.forall_mem_cons.mpr ⟨ze_iload_n (k := 2) (by decide +kernel) rfl, ?_⟩
  refine List.forall_mem_cons.mpr ⟨ze_aload_n (k := 0) (by decide +kernel) rfl, ?_⟩
  refine List.forall_mem_cons.mpr ⟨ze_getL (by decide +kernel) fl_X1_9 rfl (by decide), ?_⟩
  refine List.forall_mem_cons.mpr ⟨ze_iload_n (k := 1) (by decide +kernel) rfl, ?_⟩
  refine List.forall_mem_cons.mpr ⟨ze_iload_n (k := 3) (by decide +kernel) rfl, ?_⟩
  refine List.forall_mem_cons.mpr ⟨ze_callSF (idx := 26) (by decide +kernel) ml_X1_26 ms_X8_nodeOf, ?_⟩
  refine List.forall_mem_cons.mpr ⟨ze_iald (by decide +kernel), ?_⟩
  refine List.forall_mem_cons.mpr ⟨ze_iadd (by decide +kernel), ?_⟩
  refine List.forall_mem_cons.mpr ⟨ze_istoreF_n (k := 2) (by decide +kernel) rfl (by decide), ?_⟩
  refine List.forall_mem_cons.mpr ⟨ze_iincF (n := 1) (by decide +kernel) (by decide) (by decide), ?_⟩
  refine List.forall_mem_cons.mpr ⟨ze_goto (off := -21) (by decide +kernel) (by decide), ?_⟩
  refine List.forall_mem_cons.mpr ⟨ze_iload_n (k := 2) (by decide +kernel) rfl, ?_⟩
  refine List.forall_mem_cons.mpr ⟨ze_iret (by decide +kernel) rfl, ?_⟩
  exact fun _ h => absurd h List.not_mem_nil
theorem vX1_atTheEnd {l : Launch} {G : GT} {d : Nat} {av : List Value} {Q : Po} {σ : Mm} (cs : List (Nat × List Nat)) (k : Nat) (h : vc l G d mX1_atTheEnd TX1_atTheEnd Q cs k TX1_atTheEnd (lv_args 0 av) [] σ) (hlen : (lg_sl av).length ≤ mX1_atTheEnd.2.2.1 := by exact Nat.le_of_ble_eq_true rfl) : MW l G d mX1_atTheEnd av σ Q := mw_vc TX1_atTheEnd_ok mc_X1_atTheEnd rfl hlen cs k rfl h
theorem wX1_atTheEnd {l : Launch} {G : GT} {d : Nat} {Q : Po} {pc : Nat} {lv : Lv} {st : List Value} {σ : Mm} (cs : List (Nat × List Nat)) (k : Nat) (h : vc l G d mX1_atTheEnd TX1_atTheEnd Q cs k (drp TX1_atTheEnd pc) lv st σ) (hpc : hdp (drp TX1_atTheEnd pc) = pc := by rfl) : Wp l G d mX1_atTheEnd pc lv st σ Q := wp_vc TX1_atTheEnd_ok cs k hpc h
def TX2_clear : List In := [(0, 1, zt_aload 0), (1, 2, zt_ic 0), (2, 5, zt_putI 11 0), (5, 6, zt_aload 0), (6, 7, zt_ic 0), (7, 10, zt_putI 11 5), (10, 11, zt_aload 0), (11, 12, zt_ic 0), (12, 15, zt_putI 11 6), (15, 16, zt_aload 0), (16, 17, zt_ic 0), (17, 20, zt_putZ 11 8), (20, 21, zt_vret)]
theorem TX2_clear_ok : ∀ i ∈ TX2_clear, Ent mX2_clear i := by
  refine List.forall_mem_cons.mpr ⟨ze_aload_n (k := 0) (by decide +kernel) rfl, ?_⟩
  refine List.forall_mem_cons.mpr ⟨ze_iconst (n := 0) (by decide +kernel) (by decide), ?_⟩
  refine List.forall_mem_cons.mpr ⟨ze_putI (by decide +kernel) fl_X2_26 ⟨_, _, _, rfl, rfl, by decide +kernel⟩ rfl, ?_⟩
  refine List.forall_mem_cons.mpr ⟨ze_aload_n (k := 0) (by decide +kernel) rfl, ?_⟩
  refine List.forall_mem_cons.mpr ⟨ze_iconst (n := 0) (by decide +kernel) (by decide), ?_⟩
  refine List.forall_mem_cons.mpr ⟨ze_putI (by decide +kernel) fl_X2_30 ⟨_, _, _, rfl, rfl, by decide +kernel⟩ rfl, ?_⟩
  refine List.forall_mem_cons.mpr ⟨ze_aload_n (k := 0) (by decide +kernel) rfl, ?_⟩
  refine List.forall_mem_cons.mpr ⟨ze_iconst (n := 0) (by decide +kernel) (by decide), ?_⟩
  refine List.forall_mem_cons.mpr ⟨ze_putI (by decide +kernel) fl_X2_33 ⟨_, _, _, rfl, rfl, by decide +kernel⟩ rfl, ?_⟩
  refine List.forall_mem_cons.mpr ⟨ze_aload_n (k := 0) (by decide +kernel) rfl, ?_⟩
  refine List.forall_mem_cons.mpr ⟨ze_iconst (n := 0) (by decide +kernel) (by decide), ?_⟩
  refine List.forall_mem_cons.mpr ⟨ze_putZ (by decide +kernel) fl_X2_36 ⟨_, _, _, rfl, rfl, by decide +kernel⟩ rfl, ?_⟩
  refine List.forall_mem_cons.mpr ⟨ze_vret (by decide +kernel) rfl, ?_⟩
  exact fun _ h => absurd h List.not_mem_nil
theorem vX2_clear {l : Launch} {G : GT} {d : Nat} {av : List Value} {Q : Po} {σ : Mm} (cs : List (Nat × List Nat)) (k : Nat) (h : vc l G d mX2_clear TX2_clear Q cs k TX2_clear (lv_args 0 av) [] σ) (hlen : (lg_sl av).length ≤ mX2_clear.2.2.1 := by exact Nat.le_of_ble_eq_true rfl) : MW l G d mX2_clear av σ Q := mw_vc TX2_clear_ok mc_X2_clear rfl hlen cs k rfl h
theorem wX2_clear {l : Launch} {G : GT} {d : Nat} {Q : Po} {pc : Nat} {lv : Lv} {st : List Value} {σ : Mm} (cs : List (Nat × List Nat)) (k : Nat) (h : vc l G d mX2_clear TX2_clear Q cs k (drp TX2_clear pc) lv st σ) (hpc : hdp (drp TX2_clear pc) = pc := by rfl) : Wp l G d mX2_clear pc lv st σ Q := wp_vc TX2_clear_ok cs k hpc h
def TX2_save : List In := [(0, 1, zt_aload 1), (1, 2, zt_ic 0), (2, 3, zt_aload 0), (3, 6, zt_getL 11 1), (6, 7, zt_aload 0), (7, 10, zt_getI 11 5), (10, 12, zt_ic 115), (12, 13, zt_imul), (13, 15, zt_ic 115), (15, 18, zt_copyI), (18, 19, zt_vret)]
theorem TX2_save_ok : ∀ i ∈ TX2_save, Ent mX2_save i := by
  refine List.forall_mem_cons.mpr ⟨ze_aload_n (k := 1) (by decide +kernel) rfl, ?_⟩
  refine List.forall_mem_cons.mpr ⟨ze_iconst (n := 0) (by decide +kernel) (by decide), ?_⟩
  refine List.forall_mem_cons.mpr ⟨ze_aload_n (k := 0) (by decide +kernel) rfl, ?_⟩
  refine List.forall_mem_cons.mpr ⟨ze_getL (by decide +kernel) fl_X2_13 rfl (by decide), ?_⟩
  refine List.forall_mem_cons.mpr ⟨ze_aload_n (k := 0) (by decide +kernel) rfl, ?_⟩
  refine List.forall_mem_cons.mpr ⟨ze_getI (by decide +kernel) fl_X2_30 rfl, ?_⟩
  refine List.forall_mem_cons.mpr ⟨ze_bipush (n := 115) (by decide +kernel) (by decide), ?_⟩
  refine List.forall_mem_cons.mpr ⟨ze_imul (by decide +kernel), ?_⟩
  refine List.forall_mem_cons.mpr ⟨ze_bipush (n := 115) (by decide +kernel) (by decide), ?_⟩
  refine List.forall_mem_cons.mpr ⟨ze_copyI (idx := 40) (by decide +kernel) ml_X2_40 jcp.1 jcp.2.1 jcp.2.2, ?_⟩
  refine List.forall_mem_cons.mpr ⟨ze_vret (by decide +kernel) rfl, ?_⟩
  exact fun _ h => absurd h List.not_mem_nil
theorem vX2_save {l : Launch} {G : GT} {d : Nat} {av : List Value} {Q : Po} {σ : Mm} (cs : List (Nat × List Nat)) (k : Nat) (h : vc l G d mX2_save TX2_save Q cs k TX2_save (lv_args 0 av) [] σ) (hlen : (lg_sl av).length ≤ mX2_save.2.2.1 := by exact Nat.le_of_ble_eq_true rfl) : MW l G d mX2_save av σ Q := mw_vc TX2_save_ok mc_X2_save rfl hlen cs k rfl h
theorem wX2_save {l : Launch} {G : GT} {d : Nat} {Q : Po} {pc : Nat} {lv : Lv} {st : List Value} {σ : Mm} (cs : List (Nat × List Nat)) (k : Nat) (h : vc l G d mX2_save TX2_save Q cs k (drp TX2_save pc) lv st σ) (hpc : hdp (drp TX2_save pc) = pc := by rfl) : Wp l G d mX2_save pc lv st σ Q := wp_vc TX2_save_ok cs k hpc h
def TX2_enter : List In := [(0, 1, zt_aload 0), (1, 2, zt_aload 0), (2, 5, zt_getI 11 5), (5, 6, zt_ic 1), (6, 7, zt_iadd), (7, 9, zt_ic 41), (9, 10, zt_irem), (10, 13, zt_putI 11 5), (13, 14, zt_aload 0), (14, 16, zt_ic 40), (16, 17, zt_aload 0), (17, 20, zt_getI 11 0), (20, 21, zt_ic 1), (21, 22, zt_iadd), (22, 25, zt_min), (25, 28, zt_putI 11 0), (28, 29, zt_aload 0), (29, 32, zt_getI 11 6), (32, 34, zt_ic 100), (34, 35, zt_irem), (35, 36, zt_ic 3), (36, 37, zt_imul), (37, 39, zt_istoreF 4), (39, 40, zt_aload 0), (40, 43, zt_getL 11 2), (43, 45, zt_iload 4), (45, 46, zt_iload 1), (46, 47, zt_iastoreF), (47, 48, zt_aload 0), (48, 51, zt_getL 11 2), (51, 53, zt_iload 4), (53, 54, zt_ic 1), (54, 55, zt_iadd), (55, 56, zt_iload 2), (56, 57, zt_iastoreF), (57, 58, zt_aload 0), (58, 61, zt_getL 11 2), (61, 63, zt_iload 4), (63, 64, zt_ic 2), (64, 65, zt_iadd), (65, 66, zt_iload 3), (66, 67, zt_iastoreF), (67, 68, zt_aload 0), (68, 69, zt_dup), (69, 72, zt_getI 11 6), (72, 73, zt_ic 1), (73, 74, zt_iadd), (74, 77, zt_putI 11 6), (77, 78, zt_vret)]
theorem TX2_enter_ok : ∀ i ∈ TX2_enter, Ent mX2_enter i := by
  refine List.forall_mem_cons.mpr ⟨ze_aload_n (k := 0) (by decide +kernel) rfl, ?_⟩
  refine List.forall_mem_cons.mpr ⟨ze_aload_n (k := 0) (by decide +kernel) rfl, ?_⟩
  refine List.forall_mem_cons.mpr ⟨ze_getI (by decide +kernel) fl_X2_30 rfl, ?_⟩
  refine List.forall_mem_cons.mpr ⟨ze_iconst (n := 1) (by decide +kernel) (by decide), ?_⟩
  refine List.forall_mem_cons.mpr ⟨ze_iadd (by decide +kernel), ?_⟩
  refine List.forall_mem_cons.mpr ⟨ze_bipush (n := 41) (by decide +kernel) (by decide), ?_⟩
  refine List.forall_mem_cons.mpr ⟨ze_irem (by decide +kernel), ?_⟩
  refine List.forall_mem_cons.mpr ⟨ze_putI (by decide +kernel) fl_X2_30 ⟨_, _, _, rfl, rfl, by decide +kernel⟩ rfl, ?_⟩
  refine List.forall_mem_cons.mpr ⟨ze_aload_n (k := 0) (by decide +kernel) rfl, ?_⟩
  refine List.forall_mem_cons.mpr ⟨ze_bipush (n := 40) (by decide +kernel) (by decide), ?_⟩
  refine List.forall_mem_cons.mpr ⟨ze_aload_n (k := 0) (by decide +kernel) rfl, ?_⟩
  refine List.forall_mem_cons.mpr ⟨ze_getI (by decide +kernel) fl_X2_26 rfl, ?_⟩
  refine List.forall_mem_cons.mpr ⟨ze_iconst (n := 1) (by decide +kernel) (by decide), ?_⟩
  refine List.forall_mem_cons.mpr ⟨ze_iadd (by decide +kernel), ?_⟩
  refine List.forall_mem_cons.mpr ⟨ze_min (idx := 46) (by decide +kernel) ml_X2_46 jmn.1 jmn.2.1 jmn.2.2, ?_⟩
  refine List.forall_mem_cons.mpr ⟨ze_putI (by decide +kernel) fl_X2_26 ⟨_, _, _, rfl, rfl, by decide +kernel⟩ rfl, ?_⟩
  refine List.forall_mem_cons.mpr ⟨ze_aload_n (k := 0) (by decide +kernel) rfl, ?_⟩
  refine List.forall_mem_cons.mpr ⟨ze_getI (by decide +kernel) fl_X2_33 rfl, ?_⟩
  refine List.forall_mem_cons.mpr ⟨ze_bipush (n := 100) (by decide +kernel) (by decide), ?_⟩
  refine List.forall_mem_cons.mpr ⟨ze_irem (by decide +kernel), ?_⟩
  refine List.forall_mem_cons.mpr ⟨ze_iconst (n := 3) (by decide +kernel) (by decide), ?_⟩
  refine List.forall_mem_cons.mpr ⟨ze_imul (by decide +kernel), ?_⟩
  refine List.forall_mem_cons.mpr ⟨ze_istoreF (by decide +kernel) (by decide), ?_⟩
  refine List.forall_mem_cons.mpr ⟨ze_aload_n (k := 0) (by decide +kernel) rfl, ?_⟩
  refine List.forall_mem_cons.mpr ⟨ze_getL (by decide +kernel) fl_X2_17 rfl (by decide), ?_⟩
  refine List.forall_mem_cons.mpr ⟨ze_iload (by decide +kernel), ?_⟩
  refine List.forall_mem_cons.mpr ⟨ze_iload_n (k := 1) (by decide +kernel) rfl, ?_⟩
  refine List.forall_mem_cons.mpr ⟨ze_iastoreF (by decide +kernel), ?_⟩
  refine List.forall_mem_cons.mpr ⟨ze_aload_n (k := 0) (by decide +kernel) rfl, ?_⟩
  refine List.forall_mem_cons.mpr ⟨ze_getL (by decide +kernel) fl_X2_17 rfl (by decide), ?_⟩
  refine List.forall_mem_cons.mpr ⟨ze_iload (by decide +kernel), ?_⟩
  refine List.forall_mem_cons.mpr ⟨ze_iconst (n := 1) (by decide +kernel) (by decide), ?_⟩
  refine List.forall_mem_cons.mpr ⟨ze_iadd (by decide +kernel), ?_⟩
  refine List.forall_mem_cons.mpr ⟨ze_iload_n (k := 2) (by decide +kernel) rfl, ?_⟩
  refine List.forall_mem_cons.mpr ⟨ze_iastoreF (by decide +kernel), ?_⟩
  refine List.forall_mem_cons.mpr ⟨ze_aload_n (k := 0) (by decide +kernel) rfl, ?_⟩
  refine List.forall_mem_cons.mpr ⟨ze_getL (by decide +kernel) fl_X2_17 rfl (by decide), ?_⟩
  refine List.forall_mem_cons.mpr ⟨ze_iload (by decide +kernel), ?_⟩
  refine List.forall_mem_cons.mpr ⟨ze_iconst (n := 2) (by decide +kernel) (by decide), ?_⟩
  refine List.forall_mem_cons.mpr ⟨ze_iadd (by decide +kernel), ?_⟩
  refine List.forall_mem_cons.mpr ⟨ze_iload_n (k := 3) (by decide +kernel) rfl, ?_⟩
  refine List.forall_mem_cons.mpr ⟨ze_iastoreF (by decide +kernel), ?_⟩
  refine List.forall_mem_cons.mpr ⟨ze_aload_n (k := 0) (by decide +kernel) rfl, ?_⟩
  refine List.forall_mem_cons.mpr ⟨ze_dup (by decide +kernel), ?_⟩
  refine List.forall_mem_cons.mpr ⟨ze_getI (by decide +kernel) fl_X2_33 rfl, ?_⟩
  refine List.forall_mem_cons.mpr ⟨ze_iconst (n := 1) (by decide +kernel) (by decide), ?_⟩
  refine List.forall_mem_cons.mpr ⟨ze_iadd (by decide +kernel), ?_⟩
  refine List.forall_mem_cons.mpr ⟨ze_putI (by decide +kernel) fl_X2_33 ⟨_, _, _, rfl, rfl, by decide +kernel⟩ rfl, ?_⟩
  refine List.forall_mem_cons.mpr ⟨ze_vret (by decide +kernel) rfl, ?_⟩
  exact fun _ h => absurd h List.not_mem_nil
theorem vX2_enter {l : Launch} {G : GT} {d : Nat} {av : List Value} {Q : Po} {σ : Mm} (cs : List (Nat × List Nat)) (k : Nat) (h : vc l G d mX2_enter TX2_enter Q cs k TX2_enter (lv_args 0 av) [] σ) (hlen : (lg_sl av).length ≤ mX2_enter.2.2.1 := by exact Nat.le_of_ble_eq_true rfl) : MW l G d mX2_enter av σ Q := mw_vc TX2_enter_ok mc_X2_enter rfl hlen cs k rfl h
theorem wX2_enter {l : Launch} {G : GT} {d : Nat} {Q : Po} {pc : Nat} {lv : Lv} {st : List Value} {σ : Mm} (cs : List (Nat × List Nat)) (k : Nat) (h : vc l G d mX2_enter TX2_enter Q cs k (drp TX2_enter pc) lv st σ) (hpc : hdp (drp TX2_enter pc) = pc := by rfl) : Wp l G d mX2_enter pc lv st σ Q := wp_vc TX2_enter_ok cs k hpc h
def TX2_takeBack : List In := [(0, 1, zt_aload 0), (1, 4, zt_getI 11 0), (4, 7, zt_if_eq 14), (7, 8, zt_aload 0), (8, 11, zt_getI 11 6), (11, 14, zt_if_ne 16), (14, 15, zt_ic 0), (15, 16, zt_zret), (16, 17, zt_aload 0), (17, 18, zt_aload 0), (18, 21, zt_getI 11 5), (21, 23, zt_ic 41), (23, 24, zt_iadd), (24, 25, zt_ic 1), (25, 26, zt_isub), (26, 28, zt_ic 41), (28, 29, zt_irem), (29, 32, zt_putI 11 5), (32, 33, zt_aload 0), (33, 34, zt_dup), (34, 37, zt_getI 11 0), (37, 38, zt_ic 1), (38, 39, zt_isub), (39, 42, zt_putI 11 0), (42, 43, zt_aload 0), (43, 44, zt_dup), (44, 47, zt_getI 11 6), (47, 48, zt_ic 1), (48, 49, zt_isub), (49, 52, zt_putI 11 6), (52, 53, zt_aload 0), (53, 56, zt_getL 11 1), (56, 57, zt_aload 0), (57, 60, zt_getI 11 5), (60, 62, zt_ic 115), (62, 63, zt_imul), (63, 64, zt_aload 1), (64, 65, zt_ic 0), (65, 67, zt_ic 115), (67, 70, zt_copyI), (70, 71, zt_ic 1), (71, 72, zt_zret)]
theorem TX2_takeBack_ok : ∀ i ∈ TX2_takeBack, Ent mX2_takeBack i := by
  refine List.forall_mem_cons.mpr ⟨ze_aload_n (k := 0) (by decide +kernel) rfl, ?_⟩
  refine List.forall_mem_cons.mpr ⟨ze_getI (by decide +kernel) fl_X2_26 rfl, ?_⟩
  refine List.forall_mem_cons.mpr ⟨ze_if_eq (off := 10) (by decide +kernel) (by decide), ?_⟩
  refine List.forall_mem_cons.mpr ⟨ze_aload_n (k := 0) (by decide +kernel) rfl, ?_⟩
  refine List.forall_mem_cons.mpr ⟨ze_getI (by decide +kernel) fl_X2_33 rfl, ?_⟩
  refine List.forall_mem_cons.mpr ⟨ze_if_ne (off := 5) (by decide +kernel) (by decide), ?_⟩
  refine List.forall_mem_cons.mpr ⟨ze_iconst (n := 0) (by decide +kernel) (by decide), ?_⟩
  refine List.forall_mem_cons.mpr ⟨ze_zret (by decide +kernel) rfl, ?_⟩
  refine List.forall_mem_cons.mpr ⟨ze_aload_n (k := 0) (by decide +kernel) rfl, ?_⟩
  refine List.forall_mem_cons.mpr ⟨ze_aload_n (k := 0) (by decide +kernel) rfl, ?_⟩
  refine List.forall_mem_cons.mpr ⟨ze_getI (by decide +kernel) fl_X2_30 rfl, ?_⟩
  refine List.forall_mem_cons.mpr ⟨ze_bipush (n := 41) (by decide +kernel) (by decide), ?_⟩
  refine List.forall_mem_cons.mpr ⟨ze_iadd (by decide +kernel), ?_⟩
  refine List.forall_mem_cons.mpr ⟨ze_iconst (n := 1) (by decide +kernel) (by decide), ?_⟩
  refine List.forall_mem_cons.mpr ⟨ze_isub (by decide +kernel), ?_⟩
  refine List.forall_mem_cons.mpr ⟨ze_bipush (n := 41) (by decide +kernel) (by decide), ?_⟩
  refine List.forall_mem_cons.mpr ⟨ze_irem (by decide +kernel), ?_⟩
  refine List.forall_mem_cons.mpr ⟨ze_putI (by decide +kernel) fl_X2_30 ⟨_, _, _, rfl, rfl, by decide +kernel⟩ rfl, ?_⟩
  refine List.forall_mem_cons.mpr ⟨ze_aload_n (k := 0) (by decide +kernel) rfl, ?_⟩
  refine List.forall_mem_cons.mpr ⟨ze_dup (by decide +kernel), ?_⟩
  refine List.forall_mem_cons.mpr ⟨ze_getI (by decide +kernel) fl_X2_26 rfl, ?_⟩
  refine List.forall_mem_cons.mpr ⟨ze_iconst (n := 1) (by decide +kernel) (by decide), ?_⟩
  refine List.forall_mem_cons.mpr ⟨ze_isub (by decide +kernel), ?_⟩
  refine List.forall_mem_cons.mpr ⟨ze_putI (by decide +kernel) fl_X2_26 ⟨_, _, _, rfl, rfl, by decide +kernel⟩ rfl, ?_⟩
  refine List.forall_mem_cons.mpr ⟨ze_aload_n (k := 0) (by decide +kernel) rfl, ?_⟩
  refine List.forall_mem_cons.mpr ⟨ze_dup (by decide +kernel), ?_⟩
  refine List.forall_mem_cons.mpr ⟨ze_getI (by decide +kernel) fl_X2_33 rfl, ?_⟩
  refine List.forall_mem_cons.mpr ⟨ze_iconst (n := 1) (by decide +kernel) (by decide), ?_⟩
  refine List.forall_mem_cons.mpr ⟨ze_isub (by decide +kernel), ?_⟩
  refine List.forall_mem_cons.mpr ⟨ze_putI (by decide +kernel) fl_X2_33 ⟨_, _, _, rfl, rfl, by decide +kernel⟩ rfl, ?_⟩
  refine List.forall_mem_cons.mpr ⟨ze_aload_n (k := 0) (by decide +kernel) rfl, ?_⟩
  refine List.forall_mem_cons.mpr ⟨ze_getL (by decide +kernel) fl_X2_13 rfl (by decide), ?_⟩
  refine List.forall_mem_cons.mpr ⟨ze_aload_n (k := 0) (by decide +kernel) rfl, ?_⟩
  refine List.forall_mem_cons.mpr ⟨ze_getI (by decide +kernel) fl_X2_30 rfl, ?_⟩
  refine List.forall_mem_cons.mpr ⟨ze_bipush (n := 115) (by decide +kernel) (by decide), ?_⟩
  refine List.forall_mem_cons.mpr ⟨ze_imul (by decide +kernel), ?_⟩
  refine List.forall_mem_cons.mpr ⟨ze_aload_n (k := 1) (by decide +kernel) rfl, ?_⟩
  refine List.forall_mem_cons.mpr ⟨ze_iconst (n := 0) (by decide +kernel) (by decide), ?_⟩
  refine List.forall_mem_cons.mpr ⟨ze_bipush (n := 115) (by decide +kernel) (by decide), ?_⟩
  refine List.forall_mem_cons.mpr ⟨ze_copyI (idx := 40) (by decide +kernel) ml_X2_40 jcp.1 jcp.2.1 jcp.2.2, ?_⟩
  refine List.forall_mem_cons.mpr ⟨ze_iconst (n := 1) (by decide +kernel) (by decide), ?_⟩
  refine List.forall_mem_cons.mpr ⟨ze_zret (by decide +kernel) rfl, ?_⟩
  exact fun _ h => absurd h List.not_mem_nil
theorem vX2_takeBack {l : Launch} {G : GT} {d : Nat} {av : List Value} {Q : Po} {σ : Mm} (cs : List (Nat × List Nat)) (k : Nat) (h : vc l G d mX2_takeBack TX2_takeBack Q cs k TX2_takeBack (lv_args 0 av) [] σ) (hlen : (lg_sl av).length ≤ mX2_takeBack.2.2.1 := by exact Nat.le_of_ble_eq_true rfl) : MW l G d mX2_takeBack av σ Q := mw_vc TX2_takeBack_ok mc_X2_takeBack rfl hlen cs k rfl h
theorem wX2_takeBack {l : Launch} {G : GT} {d : Nat} {Q : Po} {pc : Nat} {lv : Lv} {st : List Value} {σ : Mm} (cs : List (Nat × List Nat)) (k : Nat) (h : vc l G d mX2_takeBack TX2_takeBack Q cs k (drp TX2_takeBack pc) lv st σ) (hpc : hdp (drp TX2_takeBack pc) = pc := by rfl) : Wp l G d mX2_takeBack pc lv st σ Q := wp_vc TX2_takeBack_ok cs k hpc h
def TX2_shown : List In := [(0, 2, zt_ic 60), (2, 3, zt_aload 0), (3, 6, zt_getI 11 6), (6, 9, zt_min), (9, 10, zt_iret)]
theorem TX2_shown_ok : ∀ i ∈ TX2_shown, Ent mX2_shown i := by
  refine List.forall_mem_cons.mpr ⟨ze_bipush (n := 60) (by decide +kernel) (by decide), ?_⟩
  refine List.forall_mem_cons.mpr ⟨ze_aload_n (k := 0) (by decide +kernel) rfl, ?_⟩
  refine List.forall_mem_cons.mpr ⟨ze_getI (by decide +kernel) fl_X2_33 rfl, ?_⟩
  refine List.forall_mem_cons.mpr ⟨ze_min (idx := 46) (by decide +kernel) ml_X2_46 jmn.1 jmn.2.1 jmn.2.2, ?_⟩
  refine List.forall_mem_cons.mpr ⟨ze_iret (by decide +kernel) rfl, ?_⟩
  exact fun _ h => absurd h List.not_mem_nil
theorem vX2_shown {l : Launch} {G : GT} {d : Nat} {av : List Value} {Q : Po} {σ : Mm} (cs : List (Nat × List Nat)) (k : Nat) (h : vc l G d mX2_shown TX2_shown Q cs k TX2_shown (lv_args 0 av) [] σ) (hlen : (lg_sl av).length ≤ mX2_shown.2.2.1 := by exact Nat.le_of_ble_eq_true rfl) : MW l G d mX2_shown av σ Q := mw_vc TX2_shown_ok mc_X2_shown rfl hlen cs k rfl h
theorem wX2_shown {l : Launch} {G : GT} {d : Nat} {Q : Po} {pc : Nat} {lv : Lv} {st : List Value} {σ : Mm} (cs : List (Nat × List Nat)) (k : Nat) (h : vc l G d mX2_shown TX2_shown Q cs k (drp TX2_shown pc) lv st σ) (hpc : hdp (drp TX2_shown pc) = pc := by rfl) : Wp l G d mX2_shown pc lv st σ Q := wp_vc TX2_shown_ok cs k hpc h
def TX2_entry : List In := [(0, 1, zt_iload 1), (1, 4, zt_if_lt 21), (4, 5, zt_iload 1), (5, 6, zt_aload 0), (6, 9, zt_callVF mX2_shown 0 11), (9, 12, zt_icmp_ge 21), (12, 13, zt_iload 2), (13, 16, zt_if_lt 21), (16, 17, zt_iload 2), (17, 18, zt_ic 3), (18, 21, zt_icmp_lt 24), (21, 23, zt_ic (-1000000 : Int32)), (23, 24, zt_iret), (24, 25, zt_aload 0), (25, 28, zt_getL 11 2), (28, 29, zt_aload 0), (29, 32, zt_getI 11 6), (32, 33, zt_ic 1), (33, 34, zt_isub), (34, 35, zt_iload 1), (35, 36, zt_isub), (36, 38, zt_ic 100), (38, 39, zt_irem), (39, 40, zt_ic 3), (40, 41, zt_imul), (41, 42, zt_iload 2), (42, 43, zt_iadd), (43, 44, zt_iald), (44, 45, zt_iret)]
theorem TX2_entry_ok : ∀ i ∈ TX2_entry, Ent mX2_entry i := by
  refine List.forall_mem_cons.mpr ⟨ze_iload_n (k := 1) (by decide +kernel) rfl, ?_⟩
  refine List.forall_mem_cons.mpr ⟨ze_if_lt (off := 20) (by decide +kernel) (by decide), ?_⟩
  refine List.forall_mem_cons.mpr ⟨ze_iload_n (k := 1) (by decide +kernel) rfl, ?_⟩
  refine List.forall_mem_cons.mpr ⟨ze_aload_n (k := 0) (by decide +kernel) rfl, ?_⟩
  refine List.forall_mem_cons.mpr ⟨ze_callVF (idx := 52) (by decide +kernel) ml_X2_52 mv_X2_shown rfl, ?_⟩
  refine List.forall_mem_cons.mpr ⟨ze_icmp_ge (off := 12) (by decide +kernel) (by decide), ?_⟩
  refine List.forall_mem_cons.mpr ⟨ze_iload_n (k := 2) (by decide +kernel) rfl, ?_⟩
  refine List.forall_mem_cons.mpr ⟨ze_if_lt (off := 8) (by decide +kernel) (by decide), ?_⟩
  refine List.forall_mem_cons.mpr ⟨ze_iload_n (k := 2) (by decide +kernel) rfl, ?_⟩
  refine List.forall_mem_cons.mpr ⟨ze_iconst (n := 3) (by decide +kernel) (by decide), ?_⟩
  refine List.forall_mem_cons.mpr ⟨ze_icmp_lt (off := 6) (by decide +kernel) (by decide), ?_⟩
  refine List.forall_mem_cons.mpr ⟨ze_ldc (i := 56) (by decide +kernel) kc_X2_56, ?_⟩
  refine List.forall_mem_cons.mpr ⟨ze_iret (by decide +kernel) rfl, ?_⟩
  refine List.forall_mem_cons.mpr ⟨ze_aload_n (k := 0) (by decide +kernel) rfl, ?_⟩
  refine List.forall_mem_cons.mpr ⟨ze_getL (by decide +kernel) fl_X2_17 rfl (by decide), ?_⟩
  refine List.forall_mem_cons.mpr ⟨ze_aload_n (k := 0) (by decide +kernel) rfl, ?_⟩
  refine List.forall_mem_cons.mpr ⟨ze_getI (by decide +kernel) fl_X2_33 rfl, ?_⟩
  refine List.forall_mem_cons.mpr ⟨ze_iconst (n := 1) (by decide +kernel) (by decide), ?_⟩
  refine List.forall_mem_cons.mpr ⟨ze_isub (by decide +kernel), ?_⟩
  refine List.forall_mem_cons.mpr ⟨ze_iload_n (k := 1) (by decide +kernel) rfl, ?_⟩
  refine List.forall_mem_cons.mpr ⟨ze_isub (by decide +kernel), ?_⟩
  refine List.forall_mem_cons.mpr ⟨ze_bipush (n := 100) (by decide +kernel) (by decide), ?_⟩
  refine List.forall_mem_cons.mpr ⟨ze_irem (by decide +kernel), ?_⟩
  refine List.forall_mem_cons.mpr ⟨ze_iconst (n := 3) (by decide +kernel) (by decide), ?_⟩
  refine List.forall_mem_cons.mpr ⟨ze_imul (by decide +kernel), ?_⟩
  refine List.forall_mem_cons.mpr ⟨ze_iload_n (k := 2) (by decide +kernel) rfl, ?_⟩
  refine List.forall_mem_cons.mpr ⟨ze_iadd (by decide +kernel), ?_⟩
  refine List.forall_mem_cons.mpr ⟨ze_iald (by decide +kernel), ?_⟩
  refine List.forall_mem_cons.mpr ⟨ze_iret (by decide +kernel) rfl, ?_⟩
  exact fun _ h => absurd h List.not_mem_nil
theorem vX2_entry {l : Launch} {G : GT} {d : Nat} {av : List Value} {Q : Po} {σ : Mm} (cs : List (Nat × List Nat)) (k : Nat) (h : vc l G d mX2_entry TX2_entry Q cs k TX2_entry (lv_args 0 av) [] σ) (hlen : (lg_sl av).length ≤ mX2_entry.2.2.1 := by exact Nat.le_of_ble_eq_true rfl) : MW l G d mX2_entry av σ Q := mw_vc TX2_entry_ok mc_X2_entry rfl hlen cs k rfl h
theorem wX2_entry {l : Launch} {G : GT} {d : Nat} {Q : Po} {pc : Nat} {lv : Lv} {st : List Value} {σ : Mm} (cs : List (Nat × List Nat)) (k : Nat) (h : vc l G d mX2_entry TX2_entry Q cs k (drp TX2_entry pc) lv st σ) (hpc : hdp (drp TX2_entry pc) = pc := by rfl) : Wp l G d mX2_entry pc lv st σ Q := wp_vc TX2_entry_ok cs k hpc h
def TX2_keepImage : List In := [(0, 1, zt_aload 1), (1, 2, zt_ic 0), (2, 3, zt_aload 0), (3, 6, zt_getL 11 3), (6, 7, zt_ic 0), (7, 9, zt_ic 115), (9, 12, zt_copyI), (12, 13, zt_aload 0), (13, 16, zt_getL 11 2), (16, 17, zt_ic 0), (17, 18, zt_aload 0), (18, 21, zt_getL 11 4), (21, 22, zt_ic 0), (22, 25, zt_ic 300), (25, 28, zt_copyI), (28, 29, zt_aload 0), (29, 30, zt_aload 0), (30, 33, zt_getI 11 6), (33, 36, zt_putI 11 7), (36, 37, zt_aload 0), (37, 38, zt_ic 1), (38, 41, zt_putZ 11 8), (41, 42, zt_vret)]
theorem TX2_keepImage_ok : ∀ i ∈ TX2_keepImage, Ent mX2_keepImage i := by
  refine List.forall_mem_cons.mpr ⟨ze_aload_n (k := 1) (by decide +kernel) rfl, ?_⟩
  refine List.forall_mem_cons.mpr ⟨ze_iconst (n := 0) (by decide +kernel) (by decide), ?_⟩
  refine List.forall_mem_cons.mpr ⟨ze_aload_n (k := 0) (by decide +kernel) rfl, ?_⟩
  refine List.forall_mem_cons.mpr ⟨ze_getL (by decide +kernel) fl_X2_20 rfl (by decide), ?_⟩
  refine List.forall_mem_cons.mpr ⟨ze_iconst (n := 0) (by decide +kernel) (by decide), ?_⟩
  refine List.forall_mem_cons.mpr ⟨ze_bipush (n := 115) (by decide +kernel) (by decide), ?_⟩
  refine List.forall_mem_cons.mpr ⟨ze_copyI (idx := 40) (by decide +kernel) ml_X2_40 jcp.1 jcp.2.1 jcp.2.2, ?_⟩
  refine List.forall_mem_cons.mpr ⟨ze_aload_n (k := 0) (by decide +kernel) rfl, ?_⟩
  refine List.forall_mem_cons.mpr ⟨ze_getL (by decide +kernel) fl_X2_17 rfl (by decide), ?_⟩
  refine List.forall_mem_cons.mpr ⟨ze_iconst (n := 0) (by decide +kernel) (by decide), ?_⟩
  refine List.forall_mem_cons.mpr ⟨ze_aload_n (k := 0) (by decide +kernel) rfl, ?_⟩
  refine List.forall_mem_cons.mpr ⟨ze_getL (by decide +kernel) fl_X2_23 rfl (by decide), ?_⟩
  refine List.forall_mem_cons.mpr ⟨ze_iconst (n := 0) (by decide +kernel) (by decide), ?_⟩
  refine List.forall_mem_cons.mpr ⟨ze_sipush (n := 300) (by decide +kernel) (by decide), ?_⟩
  refine List.forall_mem_cons.mpr ⟨ze_copyI (idx := 40) (by decide +kernel) ml_X2_40 jcp.1 jcp.2.1 jcp.2.2, ?_⟩
  refine List.forall_mem_cons.mpr ⟨ze_aload_n (k := 0) (by decide +kernel) rfl, ?_⟩
  refine List.forall_mem_cons.mpr ⟨ze_aload_n (k := 0) (by decide +kernel) rfl, ?_⟩
  refine List.forall_mem_cons.mpr ⟨ze_getI (by decide +kernel) fl_X2_33 rfl, ?_⟩
  refine List.forall_mem_cons.mpr ⟨ze_putI (by decide +kernel) fl_X2_57 ⟨_, _, _, rfl, rfl, by decide +kernel⟩ rfl, ?_⟩
  refine List.forall_mem_cons.mpr ⟨ze_aload_n (k := 0) (by decide +kernel) rfl, ?_⟩
  refine List.forall_mem_cons.mpr ⟨ze_iconst (n := 1) (by decide +kernel) (by decide), ?_⟩
  refine List.forall_mem_cons.mpr ⟨ze_putZ (by decide +kernel) fl_X2_36 ⟨_, _, _, rfl, rfl, by decide +kernel⟩ rfl, ?_⟩
  refine List.forall_mem_cons.mpr ⟨ze_vret (by decide +kernel) rfl, ?_⟩
  exact fun _ h => absurd h List.not_mem_nil
theorem vX2_keepImage {l : Launch} {G : GT} {d : Nat} {av : List Value} {Q : Po} {σ : Mm} (cs : List (Nat × List Nat)) (k : Nat) (h : vc l G d mX2_keepImage TX2_keepImage Q cs k TX2_keepImage (lv_args 0 av) [] σ) (hlen : (lg_sl av).length ≤ mX2_keepImage.2.2.1 := by exact Nat.le_of_ble_eq_true rfl) : MW l G d mX2_keepImage av σ Q := mw_vc TX2_keepImage_ok mc_X2_keepImage rfl hlen cs k rfl h
theorem wX2_keepImage {l : Launch} {G : GT} {d : Nat} {Q : Po} {pc : Nat} {lv : Lv} {st : List Value} {σ : Mm} (cs : List (Nat × List Nat)) (k : Nat) (h : vc l G d mX2_keepImage TX2_keepImage Q cs k (drp TX2_keepImage pc) lv st σ) (hpc : hdp (drp TX2_keepImage pc) = pc := by rfl) : Wp l G d mX2_keepImage pc lv st σ Q := wp_vc TX2_keepImage_ok cs k hpc h
def TX2_bringBack : List In := [(0, 1, zt_aload 0), (1, 4, zt_getI 11 8), (4, 7, zt_if_ne 9), (7, 8, zt_ic 0), (8, 9, zt_zret), (9, 10, zt_aload 0), (10, 13, zt_getL 11 3), (13, 14, zt_ic 0), (14, 15, zt_aload 1), (15, 16, zt_ic 0), (16, 18, zt_ic 115), (18, 21, zt_copyI), (21, 22, zt_aload 0), (22, 25, zt_getL 11 4), (25, 26, zt_ic 0), (26, 27, zt_aload 0), (27, 30, zt_getL 11 2), (30, 31, zt_ic 0), (31, 34, zt_ic 300), (34, 37, zt_copyI), (37, 38, zt_aload 0), (38, 39, zt_aload 0), (39, 42, zt_getI 11 7), (42, 45, zt_putI 11 6), (45, 46, zt_aload 0), (46, 47, zt_ic 0), (47, 50, zt_putI 11 0), (50, 51, zt_ic 1), (51, 52, zt_zret)]
theorem TX2_bringBack_ok : ∀ i ∈ TX2_bringBack, Ent mX2_bringBack i := by
  refine List.forall_mem_cons.mpr ⟨ze_aload_n (k := 0) (by decide +kernel) rfl, ?_⟩
  refine List.forall_mem_cons.mpr ⟨ze_getI (by decide +kernel) fl_X2_36 rfl, ?_⟩
  refine List.forall_mem_cons.mpr ⟨ze_if_ne (off := 5) (by decide +kernel) (by decide), ?_⟩
  refine List.forall_mem_cons.mpr ⟨ze_iconst (n := 0) (by decide +kernel) (by decide), ?_⟩
  refine List.forall_mem_cons.mpr ⟨ze_zret (by decide +kernel) rfl, ?_⟩
  refine List.forall_mem_cons.mpr ⟨ze_aload_n (k := 0) (by decide +kernel) rfl, ?_⟩
  refine List.forall_mem_cons.mpr ⟨ze_getL (by decide +kernel) fl_X2_20 rfl (by decide), ?_⟩
  refine List.forall_mem_cons.mpr ⟨ze_iconst (n := 0) (by decide +kernel) (by decide), ?_⟩
  refine List.forall_mem_cons.mpr ⟨ze_aload_n (k := 1) (by decide +kernel) rfl, ?_⟩
  refine List.forall_mem_cons.mpr ⟨ze_iconst (n := 0) (by decide +kernel) (by decide), ?_⟩
  refine List.forall_mem_cons.mpr ⟨ze_bipush (n := 115) (by decide +kernel) (by decide), ?_⟩
  refine List.forall_mem_cons.mpr ⟨ze_copyI (idx := 40) (by decide +kernel) ml_X2_40 jcp.1 jcp.2.1 jcp.2.2, ?_⟩
  refine List.forall_mem_cons.mpr ⟨ze_aload_n (k := 0) (by decide +kernel) rfl, ?_⟩
  refine List.forall_mem_cons.mpr ⟨ze_getL (by decide +kernel) fl_X2_23 rfl (by decide), ?_⟩
  refine List.forall_mem_cons.mpr ⟨ze_iconst (n := 0) (by decide +kernel) (by decide), ?_⟩
  refine List.forall_mem_cons.mpr ⟨ze_aload_n (k := 0) (by decide +kernel) rfl, ?_⟩
  refine List.forall_mem_cons.mpr ⟨ze_getL (by decide +kernel) fl_X2_17 rfl (by decide), ?_⟩
  refine List.forall_mem_cons.mpr ⟨ze_iconst (n := 0) (by decide +kernel) (by decide), ?_⟩
  refine List.forall_mem_cons.mpr ⟨ze_sipush (n := 300) (by decide +kernel) (by decide), ?_⟩
  refine List.forall_mem_cons.mpr ⟨ze_copyI (idx := 40) (by decide +kernel) ml_X2_40 jcp.1 jcp.2.1 jcp.2.2, ?_⟩
  refine List.forall_mem_cons.mpr ⟨ze_aload_n (k := 0) (by decide +kernel) rfl, ?_⟩
  refine List.forall_mem_cons.mpr ⟨ze_aload_n (k := 0) (by decide +kernel) rfl, ?_⟩
  refine List.forall_mem_cons.mpr ⟨ze_getI (by decide +kernel) fl_X2_57 rfl, ?_⟩
  refine List.forall_mem_cons.mpr ⟨ze_putI (by decide +kernel) fl_X2_33 ⟨_, _, _, rfl, rfl, by decide +kernel⟩ rfl, ?_⟩
  refine List.forall_mem_cons.mpr ⟨ze_aload_n (k := 0) (by decide +kernel) rfl, ?_⟩
  refine List.forall_mem_cons.mpr ⟨ze_iconst (n := 0) (by decide +kernel) (by decide), ?_⟩
  refine List.forall_mem_cons.mpr ⟨ze_putI (by decide +kernel) fl_X2_26 ⟨_, _, _, rfl, rfl, by decide +kernel⟩ rfl, ?_⟩
  refine List.forall_mem_cons.mpr ⟨ze_iconst (n := 1) (by decide +kernel) (by decide), ?_⟩
  refine List.forall_mem_cons.mpr ⟨ze_zret (by decide +kernel) rfl, ?_⟩
  exact fun _ h => absurd h List.not_mem_nil
theorem vX2_bringBack {l : Launch} {G : GT} {d : Nat} {av : List Value} {Q : Po} {σ : Mm} (cs : List (Nat × List Nat)) (k : Nat) (h : vc l G d mX2_bringBack TX2_bringBack Q cs k TX2_bringBack (lv_args 0 av) [] σ) (hlen : (lg_sl av).length ≤ mX2_bringBack.2.2.1 := by exact Nat.le_of_ble_eq_true rfl) : MW l G d mX2_bringBack av σ Q := mw_vc TX2_bringBack_ok mc_X2_bringBack rfl hlen cs k rfl h
theorem wX2_bringBack {l : Launch} {G : GT} {d : Nat} {Q : Po} {pc : Nat} {lv : Lv} {st : List Value} {σ : Mm} (cs : List (Nat × List Nat)) (k : Nat) (h : vc l G d mX2_bringBack TX2_bringBack Q cs k (drp TX2_bringBack pc) lv st σ) (hpc : hdp (drp TX2_bringBack pc) = pc := by rfl) : Wp l G d mX2_bringBack pc lv st σ Q := wp_vc TX2_bringBack_ok cs k hpc h
def TX3_attempt : List In := [(0, 1, zt_aload 0), (1, 4, zt_getL 12 0), (4, 5, zt_ic 1), (5, 6, zt_iald), (6, 9, zt_if_eq 19), (9, 10, zt_aload 0), (10, 13, zt_getL 12 1), (13, 15, zt_ic 11), (15, 16, zt_iald), (16, 19, zt_if_eq 21), (19, 20, zt_ic (-1)), (20, 21, zt_iret), (21, 22, zt_aload 0), (22, 25, zt_getL 12 2), (25, 26, zt_aload 0), (26, 29, zt_getL 12 1), (29, 30, zt_ic 0), (30, 33, zt_callVF mX8_look 2 16), (33, 34, zt_aload 0), (34, 35, zt_aload 0), (35, 38, zt_getL 12 1), (38, 39, zt_ic 0), (39, 40, zt_iald), (40, 43, zt_putI 12 3), (43, 44, zt_iload 1), (44, 100, zt_tsw 0 9 [100, 106, 112, 118, 124, 129, 136, 145, 171, 189] 213), (100, 101, zt_aload 0), (101, 102, zt_ic 1), (102, 105, zt_callVF mX3_passYear 1 12), (105, 106, zt_iret), (106, 107, zt_aload 0), (107, 108, zt_ic 0), (108, 111, zt_callVF mX3_passYear 1 12), (111, 112, zt_iret), (112, 113, zt_aload 0), (113, 114, zt_ic 1), (114, 117, zt_callVF mX3_giveNotice 1 12), (117, 118, zt_iret), (118, 119, zt_aload 0), (119, 120, zt_ic 2), (120, 123, zt_callVF mX3_giveNotice 1 12), (123, 124, zt_iret), (124, 125, zt_aload 0), (125, 128, zt_callVF mX3_takeNoticeBack 0 12), (128, 129, zt_iret), (129, 130, zt_aload 0), (130, 131, zt_iload 2), (131, 132, zt_iload 3), (132, 135, zt_callVF mX3_tellInstalment 2 12), (135, 136, zt_iret), (136, 137, zt_aload 0), (137, 138, zt_iload 2), (138, 139, zt_iload 3), (139, 141, zt_iload 4), (141, 144, zt_callVF mX3_tellRate 3 12), (144, 145, zt_iret), (145, 146, zt_aload 0), (146, 147, zt_aload 0), (147, 150, zt_getL 12 2), (150, 151, zt_aload 0), (151, 154, zt_getL 12 1), (154, 155, zt_ic 0), (155, 156, zt_ic 0), (156, 159, zt_callVF mX8_reckon 3 16), (159, 162, zt_getL 15 2), (162, 163, zt_aload 0), (163, 166, zt_callVF mX3_here 0 12), (166, 167, zt_iald), (167, 170, zt_callVF mX3_carryOut 1 12), (170, 171, zt_iret), (171, 172, zt_aload 0), (172, 173, zt_aload 0), (173, 176, zt_getL 12 2), (176, 177, zt_aload 0), (177, 180, zt_getL 12 1), (180, 181, zt_ic 0), (181, 182, zt_ic 0), (182, 185, zt_callVF mX8_reckon 3 16), (185, 188, zt_callVF mX3_takeDeeds 1 12), (188, 189, zt_iret), (189, 190, zt_aload 0), (190, 191, zt_aload 0), (191, 194, zt_getL 12 1), (194, 195, zt_aload 0), (195, 198, zt_getL 12 1), (198, 199, zt_ic 0), (199, 200, zt_iald), (200, 201, zt_aload 0), (201, 204, zt_getL 12 1), (204, 205, zt_ic 1), (205, 206, zt_iald), (206, 209, zt_callSF mX0_deedOf 3), (209, 212, zt_callVF mX3_carryOut 1 12), (212, 213, zt_iret), (213, 214, zt_ic (-1)), (214, 215, zt_iret)]
theorem TX3_attempt_ok : ∀ i ∈ TX3_attempt, Ent mX3_attempt i := by
  refine List.forall_mem_cons.mpr ⟨ze_aload_n (k := 0) (by decide +kernel) rfl, ?_⟩
  refine List.forall_mem_cons.mpr ⟨ze_getL (by decide +kernel) fl_X3_9 rfl (by decide), ?_⟩
  refine List.forall_mem_cons.mpr ⟨ze_iconst (n := 1) (by decide +kernel) (by decide), ?_⟩
  refine List.forall_mem_cons.mpr ⟨ze_iald (by decide +kernel), ?_⟩
  refine List.forall_mem_cons.mpr ⟨ze_if_eq (off := 13) (by decide +kernel) (by decide), ?_⟩
  refine List.forall_mem_cons.mpr ⟨ze_aload_n (k := 0) (by decide +kernel) rfl, ?_⟩
  refine List.forall_mem_cons.mpr ⟨ze_getL (by decide +kernel) fl_X3_15 rfl (by decide), ?_⟩
  refine List.forall_mem_cons.mpr ⟨ze_bipush (n := 11) (by decide +kernel) (by decide), ?_⟩
  refine List.forall_mem_cons.mpr ⟨ze_iald (by decide +kernel), ?_⟩
  refine List.forall_mem_cons.mpr ⟨ze_if_eq (off := 5) (by decide +kernel) (by decide), ?_⟩
  refine List.forall_mem_cons.mpr ⟨ze_iconst (n := -1) (by decide +kernel) (by decide), ?_⟩
  refine List.forall_mem_cons.mpr ⟨ze_iret (by decide +kernel) rfl, ?_⟩
  refine List.forall_mem_cons.mpr ⟨ze_aload_n (k := 0) (by decide +kernel) rfl, ?_⟩
  refine List.forall_mem_cons.mpr ⟨ze_getL (by decide +kernel) fl_X3_18 rfl (by decide), ?_⟩
  refine List.forall_mem_cons.mpr ⟨ze_aload_n (k := 0) (by decide +kernel) rfl, ?_⟩
  refine List.forall_mem_cons.mpr ⟨ze_getL (by decide +kernel) fl_X3_15 rfl (by decide), ?_⟩
  refine List.forall_mem_cons.mpr ⟨ze_iconst (n := 0) (by decide +kernel) (by decide), ?_⟩
  refine List.forall_mem_cons.mpr ⟨ze_callVF (idx := 26) (by decide +kernel) ml_X3_26 mv_X8_look rfl, ?_⟩
  refine List.forall_mem_cons.mpr ⟨ze_aload_n (k := 0) (by decide +kernel) rfl, ?_⟩
  refine List.forall_mem_cons.mpr ⟨ze_aload_n (k := 0) (by decide +kernel) rfl, ?_⟩
  refine List.forall_mem_cons.mpr ⟨ze_getL (by decide +kernel) fl_X3_15 rfl (by decide), ?_⟩
  refine List.forall_mem_cons.mpr ⟨ze_iconst (n := 0) (by decide +kernel) (by decide), ?_⟩
  refine List.forall_mem_cons.mpr ⟨ze_iald (by decide +kernel), ?_⟩
  refine List.forall_mem_cons.mpr ⟨ze_putI (by decide +kernel) fl_X3_32 ⟨_, _, _, rfl, rfl, by decide +kernel⟩ rfl, ?_⟩
  refine List.forall_mem_cons.mpr ⟨ze_iload_n (k := 1) (by decide +kernel) rfl, ?_⟩
  refine List.forall_mem_cons.mpr ⟨ze_tsw (len := 56) (df0 := 169) (offs := #[56, 62, 68, 74, 80, 85, 92, 101, 127, 145]) (by decide +kernel) (by decide) (by decide +kernel) (by decide), ?_⟩
  refine List.forall_mem_cons.mpr ⟨ze_aload_n (k := 0) (by decide +kernel) rfl, ?_⟩
  refine List.forall_mem_cons.mpr ⟨ze_iconst (n := 1) (by decide +kernel) (by decide), ?_⟩
  refine List.forall_mem_cons.mpr ⟨ze_callVF (idx := 36) (by decide +kernel) ml_X3_36 mv_X3_passYear rfl, ?_⟩
  refine List.forall_mem_cons.mpr ⟨ze_iret (by decide +kernel) rfl, ?_⟩
  refine List.forall_mem_cons.mpr ⟨ze_aload_n (k := 0) (by decide +kernel) rfl, ?_⟩
  refine List.forall_mem_cons.mpr ⟨ze_iconst (n := 0) (by decide +kernel) (by decide), ?_⟩
  refine List.forall_mem_cons.mpr ⟨ze_callVF (idx := 36) (by decide +kernel) ml_X3_36 mv_X3_passYear rfl, ?_⟩
  refine List.forall_mem_cons.mpr ⟨ze_iret (by decide +kernel) rfl, ?_⟩
  refine List.forall_mem_cons.mpr ⟨ze_aload_n (k := 0) (by decide +kernel) rfl, ?_⟩
  refine List.forall_mem_cons.mpr ⟨ze_iconst (n := 1) (by decide +kernel) (by decide), ?_⟩
  refine List.forall_mem_cons.mpr ⟨ze_callVF (idx := 40) (by decide +kernel) ml_X3_40 mv_X3_giveNotice rfl, ?_⟩
  refine List.forall_mem_cons.mpr ⟨ze_iret (by decide +kernel) rfl, ?_⟩
  refine List.forall_mem_cons.mpr ⟨ze_aload_n (k := 0) (by decide +kernel) rfl, ?_⟩
  refine List.forall_mem_cons.mpr ⟨ze_iconst (n := 2) (by decide +kernel) (by decide), ?_⟩
  refine List.forall_mem_cons.mpr ⟨ze_callVF (idx := 40) (by decide +kernel) ml_X3_40 mv_X3_giveNotice rfl, ?_⟩
  refine List.forall_mem_cons.mpr ⟨ze_iret (by decide +kernel) rfl, ?_⟩
  refine List.forall_mem_cons.mpr ⟨ze_aload_n (k := 0) (by decide +kernel) rfl, ?_⟩
  refine List.forall_mem_cons.mpr ⟨ze_callVF (idx := 43) (by decide +kernel) ml_X3_43 mv_X3_takeNoticeBack rfl, ?_⟩
  refine List.forall_mem_cons.mpr ⟨ze_iret (by decide +kernel) rfl, ?_⟩
  refine List.forall_mem_cons.mpr ⟨ze_aload_n (k := 0) (by decide +kernel) rfl, ?_⟩
  refine List.forall_mem_cons.mpr ⟨ze_iload_n (k := 2) (by decide +kernel) rfl, ?_⟩
  refine List.forall_mem_cons.mpr ⟨ze_iload_n (k := 3) (by decide +kernel) rfl, ?_⟩
  refine List.forall_mem_cons.mpr ⟨ze_callVF (idx := 47) (by decide +kernel) ml_X3_47 mv_X3_tellInstalment rfl, ?_⟩
  refine List.forall_mem_cons.mpr ⟨ze_iret (by decide +kernel) rfl, ?_⟩
  refine List.forall_mem_cons.mpr ⟨ze_aload_n (k := 0) (by decide +kernel) rfl, ?_⟩
  refine List.forall_mem_cons.mpr ⟨ze_iload_n (k := 2) (by decide +kernel) rfl, ?_⟩
  refine List.forall_mem_cons.mpr ⟨ze_iload_n (k := 3) (by decide +kernel) rfl, ?_⟩
  refine List.forall_mem_cons.mpr ⟨ze_iload (by decide +kernel), ?_⟩
  refine List.forall_mem_cons.mpr ⟨ze_callVF (idx := 51) (by decide +kernel) ml_X3_51 mv_X3_tellRate rfl, ?_⟩
  refine List.forall_mem_cons.mpr ⟨ze_iret (by decide +kernel) rfl, ?_⟩
  refine List.forall_mem_cons.mpr ⟨ze_aload_n (k := 0) (by decide +kernel) rfl, ?_⟩
  refine List.forall_mem_cons.mpr ⟨ze_aload_n (k := 0) (by decide +kernel) rfl, ?_⟩
  refine List.forall_mem_cons.mpr ⟨ze_getL (by decide +kernel) fl_X3_18 rfl (by decide), ?_⟩
  refine List.forall_mem_cons.mpr ⟨ze_aload_n (k := 0) (by decide +kernel) rfl, ?_⟩
  refine List.forall_mem_cons.mpr ⟨ze_getL (by decide +kernel) fl_X3_15 rfl (by decide), ?_⟩
  refine List.forall_mem_cons.mpr ⟨ze_iconst (n := 0) (by decide +kernel) (by decide), ?_⟩
  refine List.forall_mem_cons.mpr ⟨ze_iconst (n := 0) (by decide +kernel) (by decide), ?_⟩
  refine List.forall_mem_cons.mpr ⟨ze_callVF (idx := 55) (by decide +kernel) ml_X3_55 mv_X8_reckon rfl, ?_⟩
  refine List.forall_mem_cons.mpr ⟨ze_getL (by decide +kernel) fl_X3_59 rfl (by decide), ?_⟩
  refine List.forall_mem_cons.mpr ⟨ze_aload_n (k := 0) (by decide +kernel) rfl, ?_⟩
  refine List.forall_mem_cons.mpr ⟨ze_callVF (idx := 64) (by decide +kernel) ml_X3_64 mv_X3_here rfl, ?_⟩
  refine List.forall_mem_cons.mpr ⟨ze_iald (by decide +kernel), ?_⟩
  refine List.forall_mem_cons.mpr ⟨ze_callVF (idx := 67) (by decide +kernel) ml_X3_67 mv_X3_carryOut rfl, ?_⟩
  refine List.forall_mem_cons.mpr ⟨ze_iret (by decide +kernel) rfl, ?_⟩
  refine List.forall_mem_cons.mpr ⟨ze_aload_n (k := 0) (by decide +kernel) rfl, ?_⟩
  refine List.forall_mem_cons.mpr ⟨ze_aload_n (k := 0) (by decide +kernel) rfl, ?_⟩
  refine List.forall_mem_cons.mpr ⟨ze_getL (by decide +kernel) fl_X3_18 rfl (by decide), ?_⟩
  refine List.forall_mem_cons.mpr ⟨ze_aload_n (k := 0) (by decide +kernel) rfl, ?_⟩
  refine List.forall_mem_cons.mpr ⟨ze_getL (by decide +kernel) fl_X3_15 rfl (by decide), ?_⟩
  refine List.forall_mem_cons.mpr ⟨ze_iconst (n := 0) (by decide +kernel) (by decide), ?_⟩
  refine List.forall_mem_cons.mpr ⟨ze_iconst (n := 0) (by decide +kernel) (by decide), ?_⟩
  refine List.forall_mem_cons.mpr ⟨ze_callVF (idx := 55) (by decide +kernel) ml_X3_55 mv_X8_reckon rfl, ?_⟩
  refine List.forall_mem_cons.mpr ⟨ze_callVF (idx := 70) (by decide +kernel) ml_X3_70 mv_X3_takeDeeds rfl, ?_⟩
  refine List.forall_mem_cons.mpr ⟨ze_iret (by decide +kernel) rfl, ?_⟩
  refine List.forall_mem_cons.mpr ⟨ze_aload_n (k := 0) (by decide +kernel) rfl, ?_⟩
  refine List.forall_mem_cons.mpr ⟨ze_aload_n (k := 0) (by decide +kernel) rfl, ?_⟩
  refine List.forall_mem_cons.mpr ⟨ze_getL (by decide +kernel) fl_X3_15 rfl (by decide), ?_⟩
  refine List.forall_mem_cons.mpr ⟨ze_aload_n (k := 0) (by decide +kernel) rfl, ?_⟩
  refine List.forall_mem_cons.mpr ⟨ze_getL (by decide +kernel) fl_X3_15 rfl (by decide), ?_⟩
  refine List.forall_mem_cons.mpr ⟨ze_iconst (n := 0) (by decide +kernel) (by decide), ?_⟩
  refine List.forall_mem_cons.mpr ⟨ze_iald (by decide +kernel), ?_⟩
  refine List.forall_mem_cons.mpr ⟨ze_aload_n (k := 0) (by decide +kernel) rfl, ?_⟩
  refine List.forall_mem_cons.mpr ⟨ze_getL (by decide +kernel) fl_X3_15 rfl (by decide), ?_⟩
  refine List.forall_mem_cons.mpr ⟨ze_iconst (n := 1) (by decide +kernel) (by decide), ?_⟩
  refine List.forall_mem_cons.mpr ⟨ze_iald (by decide +kernel), ?_⟩
  refine List.forall_mem_cons.mpr ⟨ze_callSF (idx := 74) (by decide +kernel) ml_X3_74 ms_X0_deedOf, ?_⟩
  refine List.forall_mem_cons.mpr ⟨ze_callVF (idx := 67) (by decide +kernel) ml_X3_67 mv_X3_carryOut rfl, ?_⟩
  refine List.forall_mem_cons.mpr ⟨ze_iret (by decide +kernel) rfl, ?_⟩
  refine List.forall_mem_cons.mpr ⟨ze_iconst (n := -1) (by decide +kernel) (by decide), ?_⟩
  refine List.forall_mem_cons.mpr ⟨ze_iret (by decide +kernel) rfl, ?_⟩
  exact fun _ h => absurd h List.not_mem_nil
theorem vX3_attempt {l : Launch} {G : GT} {d : Nat} {av : List Value} {Q : Po} {σ : Mm} (cs : List (Nat × List Nat)) (k : Nat) (h : vc l G d mX3_attempt TX3_attempt Q cs k TX3_attempt (lv_args 0 av) [] σ) (hlen : (lg_sl av).length ≤ mX3_attempt.2.2.1 := by exact Nat.le_of_ble_eq_true rfl) : MW l G d mX3_attempt av σ Q := mw_vc TX3_attempt_ok mc_X3_attempt rfl hlen cs k rfl h
theorem wX3_attempt {l : Launch} {G : GT} {d : Nat} {Q : Po} {pc : Nat} {lv : Lv} {st : List Value} {σ : Mm} (cs : List (Nat × List Nat)) (k : Nat) (h : vc l G d mX3_attempt TX3_attempt Q cs k (drp TX3_attempt pc) lv st σ) (hpc : hdp (drp TX3_attempt pc) = pc := by rfl) : Wp l G d mX3_attempt pc lv st σ Q := wp_vc TX3_attempt_ok cs k hpc h
def TX3_here : List In := [(0, 1, zt_aload 0), (1, 4, zt_getL 12 1), (4, 5, zt_ic 0), (5, 6, zt_iald), (6, 7, zt_aload 0), (7, 10, zt_getL 12 1), (10, 11, zt_ic 1), (11, 12, zt_iald), (12, 15, zt_callSF mX8_nodeOf 2), (15, 16, zt_iret)]
theorem TX3_here_ok : ∀ i ∈ TX3_here, Ent mX3_here i := by
  refine List.forall_mem_cons.mpr ⟨ze_aload_n (k := 0) (by decide +kernel) rfl, ?_⟩
  refine List.forall_mem_cons.mpr ⟨ze_getL (by decide +kernel) fl_X3_15 rfl (by decide), ?_⟩
  refine List.forall_mem_cons.mpr ⟨ze_iconst (n := 0) (by decide +kernel) (by decide), ?_⟩
  refine List.forall_mem_cons.mpr ⟨ze_iald (by decide +kernel), ?_⟩
  refine List.forall_mem_cons.mpr ⟨ze_aload_n (k := 0) (by decide +kernel) rfl, ?_⟩
  refine List.forall_mem_cons.mpr ⟨ze_getL (by decide +kernel) fl_X3_15 rfl (by decide), ?_⟩
  refine List.forall_mem_cons.mpr ⟨ze_iconst (n := 1) (by decide +kernel) (by decide), ?_⟩
  refine List.forall_mem_cons.mpr ⟨ze_iald (by decide +kernel), ?_⟩
  refine List.forall_mem_cons.mpr ⟨ze_callSF (idx := 78) (by decide +kernel) ml_X3_78 ms_X8_nodeOf, ?_⟩
  refine List.forall_mem_cons.mpr ⟨ze_iret (by decide +kernel) rfl, ?_⟩
  exact fun _ h => absurd h List.not_mem_nil
theorem vX3_here {l : Launch} {G : GT} {d : Nat} {av : List Value} {Q : Po} {σ : Mm} (cs : List (Nat × List Nat)) (k : Nat) (h : vc l G d mX3_here TX3_here Q cs k TX3_here (lv_args 0 av) [] σ) (hlen : (lg_sl av).length ≤ mX3_here.2.2.1 := by exact Nat.le_of_ble_eq_true rfl) : MW l G d mX3_here av σ Q := mw_vc TX3_here_ok mc_X3_here rfl hlen cs k rfl h
theorem wX3_here {l : Launch} {G : GT} {d : Nat} {Q : Po} {pc : Nat} {lv : Lv} {st : List Value} {σ : Mm} (cs : List (Nat × List Nat)) (k : Nat) (h : vc l G d mX3_here TX3_here Q cs k (drp TX3_here pc) lv st σ) (hpc : hdp (drp TX3_here pc) = pc := by rfl) : Wp l G d mX3_here pc lv st σ Q := wp_vc TX3_here_ok cs k hpc h
def TX3_passYear : List In := [(0, 1, zt_aload 0), (1, 4, zt_getL 12 1), (4, 5, zt_ic 0), (5, 6, zt_iald), (6, 7, zt_ic 1), (7, 8, zt_iadd), (8, 9, zt_istoreF 2), (9, 10, zt_aload 0), (10, 13, zt_getL 12 2), (13, 14, zt_iload 2), (14, 15, zt_aload 0), (15, 18, zt_getL 12 1), (18, 19, zt_ic 2), (19, 20, zt_iald), (20, 23, zt_callVF mX8_interestOf 2 16), (23, 24, zt_istoreF 3), (24, 25, zt_aload 0), (25, 28, zt_getL 12 2), (28, 29, zt_iload 2), (29, 30, zt_aload 0), (30, 33, zt_getL 12 1), (33, 34, zt_ic 2), (34, 35, zt_iald), (35, 38, zt_callVF mX8_dueAt 2 16), (38, 40, zt_istoreF 4), (40, 41, zt_aload 0), (41, 42, zt_iload 2), (42, 45, zt_putI 12 3), (45, 46, zt_aload 0), (46, 49, zt_getL 12 1), (49, 50, zt_ic 0), (50, 51, zt_iload 2), (51, 52, zt_iastoreF), (52, 53, zt_aload 0), (53, 56, zt_getL 12 1), (56, 57, zt_ic 1), (57, 58, zt_dup2), (58, 59, zt_iald), (59, 60, zt_iload 1), (60, 61, zt_iadd), (61, 62, zt_iastoreF), (62, 63, zt_aload 0), (63, 66, zt_getL 12 1), (66, 68, zt_ic 7), (68, 69, zt_dup2), (69, 70, zt_iald), (70, 71, zt_iload 3), (71, 72, zt_iadd), (72, 73, zt_iastoreF), (73, 74, zt_aload 0), (74, 77, zt_getL 12 1), (77, 79, zt_ic 6), (79, 80, zt_dup2), (80, 81, zt_iald), (81, 83, zt_iload 4), (83, 84, zt_iadd), (84, 85, zt_iastoreF), (85, 86, zt_aload 0), (86, 89, zt_getL 12 1), (89, 90, zt_ic 4), (90, 91, zt_iald), (91, 94, zt_if_eq 128), (94, 95, zt_aload 0), (95, 98, zt_getL 12 1), (98, 99, zt_ic 5), (99, 100, zt_dup2), (100, 101, zt_iald), (101, 102, zt_ic 1), (102, 103, zt_isub), (103, 104, zt_iastoreF), (104, 105, zt_aload 0), (105, 108, zt_getL 12 1), (108, 109, zt_ic 5), (109, 110, zt_iald), (110, 113, zt_if_gt 128), (113, 115, zt_iload 4), (115, 116, zt_aload 0), (116, 117, zt_aload 0), (117, 120, zt_getL 12 1), (120, 121, zt_ic 4), (121, 122, zt_iald), (122, 125, zt_callVF mX3_settleNotice 1 12), (125, 126, zt_iadd), (126, 128, zt_istoreF 4), (128, 129, zt_iload 2), (129, 130, zt_aload 0), (130, 133, zt_getL 12 0), (133, 134, zt_ic 1), (134, 135, zt_iald), (135, 138, zt_icmp_lt 146), (138, 139, zt_aload 0), (139, 142, zt_getL 12 1), (142, 144, zt_ic 11), (144, 145, zt_ic 1), (145, 146, zt_iastoreF), (146, 148, zt_iload 4), (148, 149, zt_iret)]
theorem TX3_passYear_ok : ∀ i ∈ TX3_passYear, Ent mX3_passYear i := by
  refine List.forall_mem_cons.mpr ⟨ze_aload_n (k := 0) (by decide +kernel) rfl, ?_⟩
  refine List.forall_mem_cons.mpr ⟨ze_getL (by decide +kernel) fl_X3_15 rfl (by decide), ?_⟩
  refine List.forall_mem_cons.mpr ⟨ze_iconst (n := 0) (by decide +kernel) (by decide), ?_⟩
  refine List.forall_mem_cons.mpr ⟨ze_iald (by decide +kernel), ?_⟩
  refine List.forall_mem_cons.mpr ⟨ze_iconst (n := 1) (by decide +kernel) (by decide), ?_⟩
  refine List.forall_mem_cons.mpr ⟨ze_iadd (by decide +kernel), ?_⟩
  refine List.forall_mem_cons.mpr ⟨ze_istoreF_n (k := 2) (by decide +kernel) rfl (by decide), ?_⟩
  refine List.forall_mem_cons.mpr ⟨ze_aload_n (k := 0) (by decide +kernel) rfl, ?_⟩
  refine List.forall_mem_cons.mpr ⟨ze_getL (by decide +kernel) fl_X3_18 rfl (by decide), ?_⟩
  refine List.forall_mem_cons.mpr ⟨ze_iload_n (k := 2) (by decide +kernel) rfl, ?_⟩
  refine List.forall_mem_cons.mpr ⟨ze_aload_n (k := 0) (by decide +kernel) rfl, ?_⟩
  refine List.forall_mem_cons.mpr ⟨ze_getL (by decide +kernel) fl_X3_15 rfl (by decide), ?_⟩
  refine List.forall_mem_cons.mpr ⟨ze_iconst (n := 2) (by decide +kernel) (by decide), ?_⟩
  refine List.forall_mem_cons.mpr ⟨ze_iald (by decide +kernel), ?_⟩
  refine List.forall_mem_cons.mpr ⟨ze_callVF (idx := 81) (by decide +kernel) ml_X3_81 mv_X8_interestOf rfl, ?_⟩
  refine List.forall_mem_cons.mpr ⟨ze_istoreF_n (k := 3) (by decide +kernel) rfl (by decide), ?_⟩
  refine List.forall_mem_cons.mpr ⟨ze_aload_n (k := 0) (by decide +kernel) rfl, ?_⟩
  refine List.forall_mem_cons.mpr ⟨ze_getL (by decide +kernel) fl_X3_18 rfl (by decide), ?_⟩
  refine List.forall_mem_cons.mpr ⟨ze_iload_n (k := 2) (by decide +kernel) rfl, ?_⟩
  refine List.forall_mem_cons.mpr ⟨ze_aload_n (k := 0) (by decide +kernel) rfl, ?_⟩
  refine List.forall_mem_cons.mpr ⟨ze_getL (by decide +kernel) fl_X3_15 rfl (by decide), ?_⟩
  refine List.forall_mem_cons.mpr ⟨ze_iconst (n := 2) (by decide +kernel) (by decide), ?_⟩
  refine List.forall_mem_cons.mpr ⟨ze_iald (by decide +kernel), ?_⟩
  refine List.forall_mem_cons.mpr ⟨ze_callVF (idx := 84) (by decide +kernel) ml_X3_84 mv_X8_dueAt rfl, ?_⟩
  refine List.forall_mem_cons.mpr ⟨ze_istoreF (by decide +kernel) (by decide), ?_⟩
  refine List.forall_mem_cons.mpr ⟨ze_aload_n (k := 0) (by decide +kernel) rfl, ?_⟩
  refine List.forall_mem_cons.mpr ⟨ze_iload_n (k := 2) (by decide +kernel) rfl, ?_⟩
  refine List.forall_mem_cons.mpr ⟨ze_putI (by decide +kernel) fl_X3_32 ⟨_, _, _, rfl, rfl, by decide +kernel⟩ rfl, ?_⟩
  refine List.forall_mem_cons.mpr ⟨ze_aload_n (k := 0) (by decide +kernel) rfl, ?_⟩
  refine List.forall_mem_cons.mpr ⟨ze_getL (by decide +kernel) fl_X3_15 rfl (by decide), ?_⟩
  refine List.forall_mem_cons.mpr ⟨ze_iconst (n := 0) (by decide +kernel) (by decide), ?_⟩
  refine List.forall_mem_cons.mpr ⟨ze_iload_n (k := 2) (by decide +kernel) rfl, ?_⟩
  refine List.forall_mem_cons.mpr ⟨ze_iastoreF (by decide +kernel), ?_⟩
  refine List.forall_mem_cons.mpr ⟨ze_aload_n (k := 0) (by decide +kernel) rfl, ?_⟩
  refine List.forall_mem_cons.mpr ⟨ze_getL (by decide +kernel) fl_X3_15 rfl (by decide), ?_⟩
  refine List.forall_mem_cons.mpr ⟨ze_iconst (n := 1) (by decide +kernel) (by decide), ?_⟩
  refine List.forall_mem_cons.mpr ⟨ze_dup2 (by decide +kernel), ?_⟩
  refine List.forall_mem_cons.mpr ⟨ze_iald (by decide +kernel), ?_⟩
  refine List.forall_mem_cons.mpr ⟨ze_iload_n (k := 1) (by decide +kernel) rfl, ?_⟩
  refine List.forall_mem_cons.mpr ⟨ze_iadd (by decide +kernel), ?_⟩
  refine List.forall_mem_cons.mpr ⟨ze_iastoreF (by decide +kernel), ?_⟩
  refine List.forall_mem_cons.mpr ⟨ze_aload_n (k := 0) (by decide +kernel) rfl, ?_⟩
  refine List.forall_mem_cons.mpr ⟨ze_getL (by decide +kernel) fl_X3_15 rfl (by decide), ?_⟩
  refine List.forall_mem_cons.mpr ⟨ze_bipush (n := 7) (by decide +kernel) (by decide), ?_⟩
  refine List.forall_mem_cons.mpr ⟨ze_dup2 (by decide +kernel), ?_⟩
  refine List.forall_mem_cons.mpr ⟨ze_iald (by decide +kernel), ?_⟩
  refine List.forall_mem_cons.mpr ⟨ze_iload_n (k := 3) (by decide +kernel) rfl, ?_⟩
  refine List.forall_mem_cons.mpr ⟨ze_iadd (by decide +kernel), ?_⟩
  refine List.forall_mem_cons.mpr ⟨ze_iastoreF (by decide +kernel), ?_⟩
  refine List.forall_mem_cons.mpr ⟨ze_aload_n (k := 0) (by decide +kernel) rfl, ?_⟩
  refine List.forall_mem_cons.mpr ⟨ze_getL (by decide +kernel) fl_X3_15 rfl (by decide), ?_⟩
  refine List.forall_mem_cons.mpr ⟨ze_bipush (n := 6) (by decide +kernel) (by decide), ?_⟩
  refine List.forall_mem_cons.mpr ⟨ze_dup2 (by decide +kernel), ?_⟩
  refine List.forall_mem_cons.mpr ⟨ze_iald (by decide +kernel), ?_⟩
  refine List.forall_mem_cons.mpr ⟨ze_iload (by decide +kernel), ?_⟩
  refine List.forall_mem_cons.mpr ⟨ze_iadd (by decide +kernel), ?_⟩
  refine List.forall_mem_cons.mpr ⟨ze_iastoreF (by decide +kernel), ?_⟩
  refine List.forall_mem_cons.mpr ⟨ze_aload_n (k := 0) (by decide +kernel) rfl, ?_⟩
  refine List.forall_mem_cons.mpr ⟨ze_getL (by decide +kernel) fl_X3_15 rfl (by decide), ?_⟩
  refine List.forall_mem_cons.mpr ⟨ze_iconst (n := 4) (by decide +kernel) (by decide), ?_⟩
  refine List.forall_mem_cons.mpr ⟨ze_iald (by decide +kernel), ?_⟩
  refine List.forall_mem_cons.mpr ⟨ze_if_eq (off := 37) (by decide +kernel) (by decide), ?_⟩
  refine List.forall_mem_cons.mpr ⟨ze_aload_n (k := 0) (by decide +kernel) rfl, ?_⟩
  refine List.forall_mem_cons.mpr ⟨ze_getL (by decide +kernel) fl_X3_15 rfl (by decide), ?_⟩
  refine List.forall_mem_cons.mpr ⟨ze_iconst (n := 5) (by decide +kernel) (by decide), ?_⟩
  refine List.forall_mem_cons.mpr ⟨ze_dup2 (by decide +kernel), ?_⟩
  refine List.forall_mem_cons.mpr ⟨ze_iald (by decide +kernel), ?_⟩
  refine List.forall_mem_cons.mpr ⟨ze_iconst (n := 1) (by decide +kernel) (by decide), ?_⟩
  refine List.forall_mem_cons.mpr ⟨ze_isub (by decide +kernel), ?_⟩
  refine List.forall_mem_cons.mpr ⟨ze_iastoreF (by decide +kernel), ?_⟩
  refine List.forall_mem_cons.mpr ⟨ze_aload_n (k := 0) (by decide +kernel) rfl, ?_⟩
  refine List.forall_mem_cons.mpr ⟨ze_getL (by decide +kernel) fl_X3_15 rfl (by decide), ?_⟩
  refine List.forall_mem_cons.mpr ⟨ze_iconst (n := 5) (by decide +kernel) (by decide), ?_⟩
  refine List.forall_mem_cons.mpr ⟨ze_iald (by decide +kernel), ?_⟩
  refine List.forall_mem_cons.mpr ⟨ze_if_gt (off := 18) (by decide +kernel) (by decide), ?_⟩
  refine List.forall_mem_cons.mpr ⟨ze_iload (by decide +kernel), ?_⟩
  refine List.forall_mem_cons.mpr ⟨ze_aload_n (k := 0) (by decide +kernel) rfl, ?_⟩
  refine List.forall_mem_cons.mpr ⟨ze_aload_n (k := 0) (by decide +kernel) rfl, ?_⟩
  refine List.forall_mem_cons.mpr ⟨ze_getL (by decide +kernel) fl_X3_15 rfl (by decide), ?_⟩
  refine List.forall_mem_cons.mpr ⟨ze_iconst (n := 4) (by decide +kernel) (by decide), ?_⟩
  refine List.forall_mem_cons.mpr ⟨ze_iald (by decide +kernel), ?_⟩
  refine List.forall_mem_cons.mpr ⟨ze_callVF (idx := 87) (by decide +kernel) ml_X3_87 mv_X3_settleNotice rfl, ?_⟩
  refine List.forall_mem_cons.mpr ⟨ze_iadd (by decide +kernel), ?_⟩
  refine List.forall_mem_cons.mpr ⟨ze_istoreF (by decide +kernel) (by decide), ?_⟩
  refine List.forall_mem_cons.mpr ⟨ze_iload_n (k := 2) (by decide +kernel) rfl, ?_⟩
  refine List.forall_mem_cons.mpr ⟨ze_aload_n (k := 0) (by decide +kernel) rfl, ?_⟩
  refine List.forall_mem_cons.mpr ⟨ze_getL (by decide +kernel) fl_X3_9 rfl (by decide), ?_⟩
  refine List.forall_mem_cons.mpr ⟨ze_iconst (n := 1) (by decide +kernel) (by decide), ?_⟩
  refine List.forall_mem_cons.mpr ⟨ze_iald (by decide +kernel), ?_⟩
  refine List.forall_mem_cons.mpr ⟨ze_icmp_lt (off := 11) (by decide +kernel) (by decide), ?_⟩
  refine List.forall_mem_cons.mpr ⟨ze_aload_n (k := 0) (by decide +kernel) rfl, ?_⟩
  refine List.forall_mem_cons.mpr ⟨ze_getL (by decide +kernel) fl_X3_15 rfl (by decide), ?_⟩
  refine List.forall_mem_cons.mpr ⟨ze_bipush (n := 11) (by decide +kernel) (by decide), ?_⟩
  refine List.forall_mem_cons.mpr ⟨ze_iconst (n := 1) (by decide +kernel) (by decide), ?_⟩
  refine List.forall_mem_cons.mpr ⟨ze_iastoreF (by decide +kernel), ?_⟩
  refine List.forall_mem_cons.mpr ⟨ze_iload (by decide +kernel), ?_⟩
  refine List.forall_mem_cons.mpr ⟨ze_iret (by decide +kernel) rfl, ?_⟩
  exact fun _ h => absurd h List.not_mem_nil
theorem vX3_passYear {l : Launch} {G : GT} {d : Nat} {av : List Value} {Q : Po} {σ : Mm} (cs : List (Nat × List Nat)) (k : Nat) (h : vc l G d mX3_passYear TX3_passYear Q cs k TX3_passYear (lv_args 0 av) [] σ) (hlen : (lg_sl av).length ≤ mX3_passYear.2.2.1 := by exact Nat.le_of_ble_eq_true rfl) : MW l G d mX3_passYear av σ Q := mw_vc TX3_passYear_ok mc_X3_passYear rfl hlen cs k rfl h
theorem wX3_passYear {l : Launch} {G : GT} {d : Nat} {Q : Po} {pc : Nat} {lv : Lv} {st : List Value} {σ : Mm} (cs : List (Nat × List Nat)) (k : Nat) (h : vc l G d mX3_passYear TX3_passYear Q cs k (drp TX3_passYear pc) lv st σ) (hpc : hdp (drp TX3_passYear pc) = pc := by rfl) : Wp l G d mX3_passYear pc lv st σ Q := wp_vc TX3_passYear_ok cs k hpc h
def TX3_giveNotice : List In := [(0, 1, zt_aload 0), (1, 4, zt_getL 12 1), (4, 5, zt_ic 4), (5, 6, zt_iald), (6, 9, zt_if_eq 12), (9, 11, zt_ic (-3)), (11, 12, zt_iret), (12, 13, zt_iload 1), (13, 14, zt_aload 0), (14, 17, zt_getL 12 2), (17, 18, zt_aload 0), (18, 21, zt_getL 12 1), (21, 22, zt_ic 0), (22, 23, zt_iald), (23, 24, zt_aload 0), (24, 27, zt_getL 12 1), (27, 28, zt_ic 3), (28, 29, zt_iald), (29, 32, zt_callVF mX8_lastAllowed 2 16), (32, 35, zt_icmp_le 38), (35, 37, zt_ic (-4)), (37, 38, zt_iret), (38, 39, zt_aload 0), (39, 42, zt_getL 12 0), (42, 44, zt_ic 10), (44, 45, zt_iald), (45, 48, zt_if_ne 54), (48, 49, zt_aload 0), (49, 50, zt_iload 1), (50, 53, zt_callVF mX3_settleNotice 1 12), (53, 54, zt_iret), (54, 55, zt_aload 0), (55, 58, zt_getL 12 1), (58, 59, zt_ic 4), (59, 60, zt_iload 1), (60, 61, zt_iastoreF), (61, 62, zt_aload 0), (62, 65, zt_getL 12 1), (65, 66, zt_ic 5), (66, 67, zt_aload 0), (67, 70, zt_getL 12 0), (70, 72, zt_ic 10), (72, 73, zt_iald), (73, 74, zt_iastoreF), (74, 75, zt_ic 0), (75, 76, zt_iret)]
theorem TX3_giveNotice_ok : ∀ i ∈ TX3_giveNotice, Ent mX3_giveNotice i := by
  refine List.forall_mem_cons.mpr ⟨ze_aload_n (k := 0) (by decide +kernel) rfl, ?_⟩
  refine List.forall_mem_cons.mpr ⟨ze_getL (by decide +kernel) fl_X3_15 rfl (by decide), ?_⟩
  refine List.forall_mem_cons.mpr ⟨ze_iconst (n := 4) (by decide +kernel) (by decide), ?_⟩
  refine List.forall_mem_cons.mpr ⟨ze_iald (by decide +kernel), ?_⟩
  refine List.forall_mem_cons.mpr ⟨ze_if_eq (off := 6) (by decide +kernel) (by decide), ?_⟩
  refine List.forall_mem_cons.mpr ⟨ze_bipush (n := -3) (by decide +kernel) (by decide), ?_⟩
  refine List.forall_mem_cons.mpr ⟨ze_iret (by decide +kernel) rfl, ?_⟩
  refine List.forall_mem_cons.mpr ⟨ze_iload_n (k := 1) (by decide +kernel) rfl, ?_⟩
  refine List.forall_mem_cons.mpr ⟨ze_aload_n (k := 0) (by decide +kernel) rfl, ?_⟩
  refine List.forall_mem_cons.mpr ⟨ze_getL (by decide +kernel) fl_X3_18 rfl (by decide), ?_⟩
  refine List.forall_mem_cons.mpr ⟨ze_aload_n (k := 0) (by decide +kernel) rfl, ?_⟩
  refine List.forall_mem_cons.mpr ⟨ze_getL (by decide +kernel) fl_X3_15 rfl (by decide), ?_⟩
  refine List.forall_mem_cons.mpr ⟨ze_iconst (n := 0) (by decide +kernel) (by decide), ?_⟩
  refine List.forall_mem_cons.mpr ⟨ze_iald (by decide +kernel), ?_⟩
  refine List.forall_mem_cons.mpr ⟨ze_aload_n (k := 0) (by decide +kernel) rfl, ?_⟩
  refine List.forall_mem_cons.mpr ⟨ze_getL (by decide +kernel) fl_X3_15 rfl (by decide), ?_⟩
  refine List.forall_mem_cons.mpr ⟨ze_iconst (n := 3) (by decide +kernel) (by decide), ?_⟩
  refine List.forall_mem_cons.mpr ⟨ze_iald (by decide +kernel), ?_⟩
  refine List.forall_mem_cons.mpr ⟨ze_callVF (idx := 90) (by decide +kernel) ml_X3_90 mv_X8_lastAllowed rfl, ?_⟩
  refine List.forall_mem_cons.mpr ⟨ze_icmp_le (off := 6) (by decide +kernel) (by decide), ?_⟩
  refine List.forall_mem_cons.mpr ⟨ze_bipush (n := -4) (by decide +kernel) (by decide), ?_⟩
  refine List.forall_mem_cons.mpr ⟨ze_iret (by decide +kernel) rfl, ?_⟩
  refine List.forall_mem_cons.mpr ⟨ze_aload_n (k := 0) (by decide +kernel) rfl, ?_⟩
  refine List.forall_mem_cons.mpr ⟨ze_getL (by decide +kernel) fl_X3_9 rfl (by decide), ?_⟩
  refine List.forall_mem_cons.mpr ⟨ze_bipush (n := 10) (by decide +kernel) (by decide), ?_⟩
  refine List.forall_mem_cons.mpr ⟨ze_iald (by decide +kernel), ?_⟩
  refine List.forall_mem_cons.mpr ⟨ze_if_ne (off := 9) (by decide +kernel) (by decide), ?_⟩
  refine List.forall_mem_cons.mpr ⟨ze_aload_n (k := 0) (by decide +kernel) rfl, ?_⟩
  refine List.forall_mem_cons.mpr ⟨ze_iload_n (k := 1) (by decide +kernel) rfl, ?_⟩
  refine List.forall_mem_cons.mpr ⟨ze_callVF (idx := 87) (by decide +kernel) ml_X3_87 mv_X3_settleNotice rfl, ?_⟩
  refine List.forall_mem_cons.mpr ⟨ze_iret (by decide +kernel) rfl, ?_⟩
  refine List.forall_mem_cons.mpr ⟨ze_aload_n (k := 0) (by decide +kernel) rfl, ?_⟩
  refine List.forall_mem_cons.mpr ⟨ze_getL (by decide +kernel) fl_X3_15 rfl (by decide), ?_⟩
  refine List.forall_mem_cons.mpr ⟨ze_iconst (n := 4) (by decide +kernel) (by decide), ?_⟩
  refine List.forall_mem_cons.mpr ⟨ze_iload_n (k := 1) (by decide +kernel) rfl, ?_⟩
  refine List.forall_mem_cons.mpr ⟨ze_iastoreF (by decide +kernel), ?_⟩
  refine List.forall_mem_cons.mpr ⟨ze_aload_n (k := 0) (by decide +kernel) rfl, ?_⟩
  refine List.forall_mem_cons.mpr ⟨ze_getL (by decide +kernel) fl_X3_15 rfl (by decide), ?_⟩
  refine List.forall_mem_cons.mpr ⟨ze_iconst (n := 5) (by decide +kernel) (by decide), ?_⟩
  refine List.forall_mem_cons.mpr ⟨ze_aload_n (k := 0) (by decide +kernel) rfl, ?_⟩
  refine List.forall_mem_cons.mpr ⟨ze_getL (by decide +kernel) fl_X3_9 rfl (by decide), ?_⟩
  refine List.forall_mem_cons.mpr ⟨ze_bipush (n := 10) (by decide +kernel) (by decide), ?_⟩
  refine List.forall_mem_cons.mpr ⟨ze_iald (by decide +kernel), ?_⟩
  refine List.forall_mem_cons.mpr ⟨ze_iastoreF (by decide +kernel), ?_⟩
  refine List.forall_mem_cons.mpr ⟨ze_iconst (n := 0) (by decide +kernel) (by decide), ?_⟩
  refine List.forall_mem_cons.mpr ⟨ze_iret (by decide +kernel) rfl, ?_⟩
  exact fun _ h => absurd h List.not_mem_nil
theorem vX3_giveNotice {l : Launch} {G : GT} {d : Nat} {av : List Value} {Q : Po} {σ : Mm} (cs : List (Nat × List Nat)) (k : Nat) (h : vc l G d mX3_giveNotice TX3_giveNotice Q cs k TX3_giveNotice (lv_args 0 av) [] σ) (hlen : (lg_sl av).length ≤ mX3_giveNotice.2.2.1 := by exact Nat.le_of_ble_eq_true rfl) : MW l G d mX3_giveNotice av σ Q := mw_vc TX3_giveNotice_ok mc_X3_giveNotice rfl hlen cs k rfl h
theorem wX3_giveNotice {l : Launch} {G : GT} {d : Nat} {Q : Po} {pc : Nat} {lv : Lv} {st : List Value} {σ : Mm} (cs : List (Nat × List Nat)) (k : Nat) (h : vc l G d mX3_giveNotice TX3_giveNotice Q cs k (drp TX3_giveNotice pc) lv st σ) (hpc : hdp (drp TX3_giveNotice pc) = pc := by rfl) : Wp l G d mX3_giveNotice pc lv st σ Q := wp_vc TX3_giveNotice_ok cs k hpc h
def TX3_settleNotice : List In := [(0, 1, zt_aload 0), (1, 4, zt_getL 12 1), (4, 5, zt_ic 0), (5, 6, zt_iald), (6, 7, zt_istoreF 2), (7, 8, zt_aload 0), (8, 11, zt_getL 12 2), (11, 14, zt_getL 16 2), (14, 15, zt_iload 2), (15, 16, zt_iald), (16, 17, zt_istoreF 3), (17, 18, zt_aload 0), (18, 21, zt_getL 12 1), (21, 22, zt_ic 4), (22, 23, zt_ic 0), (23, 24, zt_iastoreF), (24, 25, zt_aload 0), (25, 28, zt_getL 12 1), (28, 29, zt_ic 5), (29, 30, zt_ic 0), (30, 31, zt_iastoreF), (31, 32, zt_aload 0), (32, 35, zt_getL 12 1), (35, 37, zt_ic 8), (37, 38, zt_dup2), (38, 39, zt_iald), (39, 40, zt_aload 0), (40, 43, zt_getL 12 2), (43, 46, zt_getL 16 2), (46, 47, zt_iload 2), (47, 48, zt_iald), (48, 49, zt_aload 0), (49, 52, zt_getL 12 2), (52, 55, zt_getL 16 0), (55, 56, zt_iload 2), (56, 57, zt_iald), (57, 58, zt_isub), (58, 59, zt_iadd), (59, 60, zt_iastoreF), (60, 61, zt_iload 1), (61, 62, zt_ic 1), (62, 65, zt_icmp_ne 76), (65, 66, zt_aload 0), (66, 69, zt_getL 12 1), (69, 71, zt_ic 11), (71, 72, zt_ic 1), (72, 73, zt_iastoreF), (73, 76, zt_goto 148), (76, 77, zt_aload 0), (77, 80, zt_getL 12 2), (80, 81, zt_iload 2), (81, 84, zt_callVF mX8_renewalAt 1 16), (84, 85, zt_istoreF 3), (85, 86, zt_aload 0), (86, 89, zt_getL 12 1), (89, 91, zt_ic 9), (91, 92, zt_dup2), (92, 93, zt_iald), (93, 94, zt_aload 0), (94, 97, zt_getL 12 0), (97, 99, zt_ic 13), (99, 100, zt_iald), (100, 101, zt_iadd), (101, 102, zt_iastoreF), (102, 103, zt_aload 0), (103, 106, zt_getL 12 1), (106, 107, zt_ic 2), (107, 108, zt_aload 0), (108, 111, zt_getL 12 2), (111, 112, zt_aload 0), (112, 115, zt_getL 12 1), (115, 117, zt_ic 25), (117, 118, zt_aload 0), (118, 121, zt_callVF mX3_here 0 12), (121, 122, zt_iadd), (122, 123, zt_iald), (123, 126, zt_callVF mX8_couponAt 1 16), (126, 127, zt_iastoreF), (127, 128, zt_aload 0), (128, 131, zt_getL 12 1), (131, 132, zt_ic 3), (132, 133, zt_dup2), (133, 134, zt_iald), (134, 135, zt_ic 1), (135, 136, zt_isub), (136, 137, zt_iastoreF), (137, 138, zt_aload 0), (138, 141, zt_getL 12 1), (141, 143, zt_ic 10), (143, 144, zt_dup2), (144, 145, zt_iald), (145, 146, zt_ic 1), (146, 147, zt_iadd), (147, 148, zt_iastoreF), (148, 149, zt_aload 0), (149, 152, zt_getL 12 1), (152, 154, zt_ic 6), (154, 155, zt_dup2), (155, 156, zt_iald), (156, 157, zt_iload 3), (157, 158, zt_iadd), (158, 159, zt_iastoreF), (159, 160, zt_iload 3), (160, 161, zt_iret)]
theorem TX3_settleNotice_ok : ∀ i ∈ TX3_settleNotice, Ent mX3_settleNotice i := by
  refine List.forall_mem_cons.mpr ⟨ze_aload_n (k := 0) (by decide +kernel) rfl, ?_⟩
  refine List.forall_mem_cons.mpr ⟨ze_getL (by decide +kernel) fl_X3_15 rfl (by decide), ?_⟩
  refine List.forall_mem_cons.mpr ⟨ze_iconst (n := 0) (by decide +kernel) (by decide), ?_⟩
  refine List.forall_mem_cons.mpr ⟨ze_iald (by decide +kernel), ?_⟩
  refine List.forall_mem_cons.mpr ⟨ze_istoreF_n (k := 2) (by decide +kernel) rfl (by decide), ?_⟩
  refine List.forall_mem_cons.mpr ⟨ze_aload_n (k := 0) (by decide +kernel) rfl, ?_⟩
  refine List.forall_mem_cons.mpr ⟨ze_getL (by decide +kernel) fl_X3_18 rfl (by decide), ?_⟩
  refine List.forall_mem_cons.mpr ⟨ze_getL (by decide +kernel) fl_X3_93 rfl (by decide), ?_⟩
  refine List.forall_mem_cons.mpr ⟨ze_iload_n (k := 2) (by decide +kernel) rfl, ?_⟩
  refine List.forall_mem_cons.mpr ⟨ze_iald (by decide +kernel), ?_⟩
  refine List.forall_mem_cons.mpr ⟨ze_istoreF_n (k := 3) (by decide +kernel) rfl (by decide), ?_⟩
  refine List.forall_mem_cons.mpr ⟨ze_aload_n (k := 0) (by decide +kernel) rfl, ?_⟩
  refine List.forall_mem_cons.mpr ⟨ze_getL (by decide +kernel) fl_X3_15 rfl (by decide), ?_⟩
  refine List.forall_mem_cons.mpr ⟨ze_iconst (n := 4) (by decide +kernel) (by decide), ?_⟩
  refine List.forall_mem_cons.mpr ⟨ze_iconst (n := 0) (by decide +kernel) (by decide), ?_⟩
  refine List.forall_mem_cons.mpr ⟨ze_iastoreF (by decide +kernel), ?_⟩
  refine List.forall_mem_cons.mpr ⟨ze_aload_n (k := 0) (by decide +kernel) rfl, ?_⟩
  refine List.forall_mem_cons.mpr ⟨ze_getL (by decide +kernel) fl_X3_15 rfl (by decide), ?_⟩
  refine List.forall_mem_cons.mpr ⟨ze_iconst (n := 5) (by decide +kernel) (by decide), ?_⟩
  refine List.forall_mem_cons.mpr ⟨ze_iconst (n := 0) (by decide +kernel) (by decide), ?_⟩
  refine List.forall_mem_cons.mpr ⟨ze_iastoreF (by decide +kernel), ?_⟩
  refine List.forall_mem_cons.mpr ⟨ze_aload_n (k := 0) (by decide +kernel) rfl, ?_⟩
  refine List.forall_mem_cons.mpr ⟨ze_getL (by decide +kernel) fl_X3_15 rfl (by decide), ?_⟩
  refine List.forall_mem_cons.mpr ⟨ze_bipush (n := 8) (by decide +kernel) (by decide), ?_⟩
  refine List.forall_mem_cons.mpr ⟨ze_dup2 (by decide +kernel), ?_⟩
  refine List.forall_mem_cons.mpr ⟨ze_iald (by decide +kernel), ?_⟩
  refine List.forall_mem_cons.mpr ⟨ze_aload_n (k := 0) (by decide +kernel) rfl, ?_⟩
  refine List.forall_mem_cons.mpr ⟨ze_getL (by decide +kernel) fl_X3_18 rfl (by decide), ?_⟩
  refine List.forall_mem_cons.mpr ⟨ze_getL (by decide +kernel) fl_X3_93 rfl (by decide), ?_⟩
  refine List.forall_mem_cons.mpr ⟨ze_iload_n (k := 2) (by decide +kernel) rfl, ?_⟩
  refine List.forall_mem_cons.mpr ⟨ze_iald (by decide +kernel), ?_⟩
  refine List.forall_mem_cons.mpr ⟨ze_aload_n (k := 0) (by decide +kernel) rfl, ?_⟩
  refine List.forall_mem_cons.mpr ⟨ze_getL (by decide +kernel) fl_X3_18 rfl (by decide), ?_⟩
  refine List.forall_mem_cons.mpr ⟨ze_getL (by decide +kernel) fl_X3_96 rfl (by decide), ?_⟩
  refine List.forall_mem_cons.mpr ⟨ze_iload_n (k := 2) (by decide +kernel) rfl, ?_⟩
  refine List.forall_mem_cons.mpr ⟨ze_iald (by decide +kernel), ?_⟩
  refine List.forall_mem_cons.mpr ⟨ze_isub (by decide +kernel), ?_⟩
  refine List.forall_mem_cons.mpr ⟨ze_iadd (by decide +kernel), ?_⟩
  refine List.forall_mem_cons.mpr ⟨ze_iastoreF (by decide +kernel), ?_⟩
  refine List.forall_mem_cons.mpr ⟨ze_iload_n (k := 1) (by decide +kernel) rfl, ?_⟩
  refine List.forall_mem_cons.mpr ⟨ze_iconst (n := 1) (by decide +kernel) (by decide), ?_⟩
  refine List.forall_mem_cons.mpr ⟨ze_icmp_ne (off := 14) (by decide +kernel) (by decide), ?_⟩
  refine List.forall_mem_cons.mpr ⟨ze_aload_n (k := 0) (by decide +kernel) rfl, ?_⟩
  refine List.forall_mem_cons.mpr ⟨ze_getL (by decide +kernel) fl_X3_15 rfl (by decide), ?_⟩
  refine List.forall_mem_cons.mpr ⟨ze_bipush (n := 11) (by decide +kernel) (by decide), ?_⟩
  refine List.forall_mem_cons.mpr ⟨ze_iconst (n := 1) (by decide +kernel) (by decide), ?_⟩
  refine List.forall_mem_cons.mpr ⟨ze_iastoreF (by decide +kernel), ?_⟩
  refine List.forall_mem_cons.mpr ⟨ze_goto (off := 75) (by decide +kernel) (by decide), ?_⟩
  refine List.forall_mem_cons.mpr ⟨ze_aload_n (k := 0) (by decide +kernel) rfl, ?_⟩
  refine List.forall_mem_cons.mpr ⟨ze_getL (by decide +kernel) fl_X3_18 rfl (by decide), ?_⟩
  refine List.forall_mem_cons.mpr ⟨ze_iload_n (k := 2) (by decide +kernel) rfl, ?_⟩
  refine List.forall_mem_cons.mpr ⟨ze_callVF (idx := 99) (by decide +kernel) ml_X3_99 mv_X8_renewalAt rfl, ?_⟩
  refine List.forall_mem_cons.mpr ⟨ze_istoreF_n (k := 3) (by decide +kernel) rfl (by decide), ?_⟩
  refine List.forall_mem_cons.mpr ⟨ze_aload_n (k := 0) (by decide +kernel) rfl, ?_⟩
  refine List.forall_mem_cons.mpr ⟨ze_getL (by decide +kernel) fl_X3_15 rfl (by decide), ?_⟩
  refine List.forall_mem_cons.mpr ⟨ze_bipush (n := 9) (by decide +kernel) (by decide), ?_⟩
  refine List.forall_mem_cons.mpr ⟨ze_dup2 (by decide +kernel), ?_⟩
  refine List.forall_mem_cons.mpr ⟨ze_iald (by decide +kernel), ?_⟩
  refine List.forall_mem_cons.mpr ⟨ze_aload_n (k := 0) (by decide +kernel) rfl, ?_⟩
  refine List.forall_mem_cons.mpr ⟨ze_getL (by decide +kernel) fl_X3_9 rfl (by decide), ?_⟩
  refine List.forall_mem_cons.mpr ⟨ze_bipush (n := 13) (by decide +kernel) (by decide), ?_⟩
  refine List.forall_mem_cons.mpr ⟨ze_iald (by decide +kernel), ?_⟩
  refine List.forall_mem_cons.mpr ⟨ze_iadd (by decide +kernel), ?_⟩
  refine List.forall_mem_cons.mpr ⟨ze_iastoreF (by decide +kernel), ?_⟩
  refine List.forall_mem_cons.mpr ⟨ze_aload_n (k := 0) (by decide +kernel) rfl, ?_⟩
  refine List.forall_mem_cons.mpr ⟨ze_getL (by decide +kernel) fl_X3_15 rfl (by decide), ?_⟩
  refine List.forall_mem_cons.mpr ⟨ze_iconst (n := 2) (by decide +kernel) (by decide), ?_⟩
  refine List.forall_mem_cons.mpr ⟨ze_aload_n (k := 0) (by decide +kernel) rfl, ?_⟩
  refine List.forall_mem_cons.mpr ⟨ze_getL (by decide +kernel) fl_X3_18 rfl (by decide), ?_⟩
  refine List.forall_mem_cons.mpr ⟨ze_aload_n (k := 0) (by decide +kernel) rfl, ?_⟩
  refine List.forall_mem_cons.mpr ⟨ze_getL (by decide +kernel) fl_X3_15 rfl (by decide), ?_⟩
  refine List.forall_mem_cons.mpr ⟨ze_bipush (n := 25) (by decide +kernel) (by decide), ?_⟩
  refine List.forall_mem_cons.mpr ⟨ze_aload_n (k := 0) (by decide +kernel) rfl, ?_⟩
  refine List.forall_mem_cons.mpr ⟨ze_callVF (idx := 64) (by decide +kernel) ml_X3_64 mv_X3_here rfl, ?_⟩
  refine List.forall_mem_cons.mpr ⟨ze_iadd (by decide +kernel), ?_⟩
  refine List.forall_mem_cons.mpr ⟨ze_iald (by decide +kernel), ?_⟩
  refine List.forall_mem_cons.mpr ⟨ze_callVF (idx := 102) (by decide +kernel) ml_X3_102 mv_X8_couponAt rfl, ?_⟩
  refine List.forall_mem_cons.mpr ⟨ze_iastoreF (by decide +kernel), ?_⟩
  refine List.forall_mem_cons.mpr ⟨ze_aload_n (k := 0) (by decide +kernel) rfl, ?_⟩
  refine List.forall_mem_cons.mpr ⟨ze_getL (by decide +kernel) fl_X3_15 rfl (by decide), ?_⟩
  refine List.forall_mem_cons.mpr ⟨ze_iconst (n := 3) (by decide +kernel) (by decide), ?_⟩
  refine List.forall_mem_cons.mpr ⟨ze_dup2 (by decide +kernel), ?_⟩
  refine List.forall_mem_cons.mpr ⟨ze_iald (by decide +kernel), ?_⟩
  refine List.forall_mem_cons.mpr ⟨ze_iconst (n := 1) (by decide +kernel) (by decide), ?_⟩
  refine List.forall_mem_cons.mpr ⟨ze_isub (by decide +kernel), ?_⟩
  refine List.forall_mem_cons.mpr ⟨ze_iastoreF (by decide +kernel), ?_⟩
  refine List.forall_mem_cons.mpr ⟨ze_aload_n (k := 0) (by decide +kernel) rfl, ?_⟩
  refine List.forall_mem_cons.mpr ⟨ze_getL (by decide +kernel) fl_X3_15 rfl (by decide), ?_⟩
  refine List.forall_mem_cons.mpr ⟨ze_bipush (n := 10) (by decide +kernel) (by decide), ?_⟩
  refine List.forall_mem_cons.mpr ⟨ze_dup2 (by decide +kernel), ?_⟩
  refine List.forall_mem_cons.mpr ⟨ze_iald (by decide +kernel), ?_⟩
  refine List.forall_mem_cons.mpr ⟨ze_iconst (n := 1) (by decide +kernel) (by decide), ?_⟩
  refine List.forall_mem_cons.mpr ⟨ze_iadd (by decide +kernel), ?_⟩
  refine List.forall_mem_cons.mpr ⟨ze_iastoreF (by decide +kernel), ?_⟩
  refine List.forall_mem_cons.mpr ⟨ze_aload_n (k := 0) (by decide +kernel) rfl, ?_⟩
  refine List.forall_mem_cons.mpr ⟨ze_getL (by decide +kernel) fl_X3_15 rfl (by decide), ?_⟩
  refine List.forall_mem_cons.mpr ⟨ze_bipush (n := 6) (by decide +kernel) (by decide), ?_⟩
  refine List.forall_mem_cons.mpr ⟨ze_dup2 (by decide +kernel), ?_⟩
  refine List.forall_mem_cons.mpr ⟨ze_iald (by decide +kernel), ?_⟩
  refine List.forall_mem_cons.mpr ⟨ze_iload_n (k := 3) (by decide +kernel) rfl, ?_⟩
  refine List.forall_mem_cons.mpr ⟨ze_iadd (by decide +kernel), ?_⟩
  refine List.forall_mem_cons.mpr ⟨ze_iastoreF (by decide +kernel), ?_⟩
  refine List.forall_mem_cons.mpr ⟨ze_iload_n (k := 3) (by decide +kernel) rfl, ?_⟩
  refine List.forall_mem_cons.mpr ⟨ze_iret (by decide +kernel) rfl, ?_⟩
  exact fun _ h => absurd h List.not_mem_nil
theorem vX3_settleNotice {l : Launch} {G : GT} {d : Nat} {av : List Value} {Q : Po} {σ : Mm} (cs : List (Nat × List Nat)) (k : Nat) (h : vc l G d mX3_settleNotice TX3_settleNotice Q cs k TX3_settleNotice (lv_args 0 av) [] σ) (hlen : (lg_sl av).length ≤ mX3_settleNotice.2.2.1 := by exact Nat.le_of_ble_eq_true rfl) : MW l G d mX3_settleNotice av σ Q := mw_vc TX3_settleNotice_ok mc_X3_settleNotice rfl hlen cs k rfl h
theorem wX3_settleNotice {l : Launch} {G : GT} {d : Nat} {Q : Po} {pc : Nat} {lv : Lv} {st : List Value} {σ : Mm} (cs : List (Nat × List Nat)) (k : Nat) (h : vc l G d mX3_settleNotice TX3_settleNotice Q cs k (drp TX3_settleNotice pc) lv st σ) (hpc : hdp (drp TX3_settleNotice pc) = pc := by rfl) : Wp l G d mX3_settleNotice pc lv st σ Q := wp_vc TX3_settleNotice_ok cs k hpc h
def TX3_takeNoticeBack : List In := [(0, 1, zt_aload 0), (1, 4, zt_getL 12 1), (4, 5, zt_ic 4), (5, 6, zt_iald), (6, 9, zt_if_ne 12), (9, 11, zt_ic (-3)), (11, 12, zt_iret), (12, 13, zt_aload 0), (13, 16, zt_getL 12 1), (16, 17, zt_ic 5), (17, 18, zt_iald), (18, 19, zt_istoreF 1), (19, 20, zt_aload 0), (20, 23, zt_getL 12 1), (23, 24, zt_ic 4), (24, 25, zt_ic 0), (25, 26, zt_iastoreF), (26, 27, zt_aload 0), (27, 30, zt_getL 12 1), (30, 31, zt_ic 5), (31, 32, zt_ic 0), (32, 33, zt_iastoreF), (33, 34, zt_iload 1), (34, 35, zt_iret)]
theorem TX3_takeNoticeBack_ok : ∀ i ∈ TX3_takeNoticeBack, Ent mX3_takeNoticeBack i := by
  refine List.forall_mem_cons.mpr ⟨ze_aload_n (k := 0) (by decide +kernel) rfl, ?_⟩
  refine List.forall_mem_cons.mpr ⟨ze_getL (by decide +kernel) fl_X3_15 rfl (by decide), ?_⟩
  refine List.forall_mem_cons.mpr ⟨ze_iconst (n := 4) (by decide +kernel) (by decide), ?_⟩
  refine List.forall_mem_cons.mpr ⟨ze_iald (by decide +kernel), ?_⟩
  refine List.forall_mem_cons.mpr ⟨ze_if_ne (off := 6) (by decide +kernel) (by decide), ?_⟩
  refine List.forall_mem_cons.mpr ⟨ze_bipush (n := -3) (by decide +kernel) (by decide), ?_⟩
  refine List.forall_mem_cons.mpr ⟨ze_iret (by decide +kernel) rfl, ?_⟩
  refine List.forall_mem_cons.mpr ⟨ze_aload_n (k := 0) (by decide +kernel) rfl, ?_⟩
  refine List.forall_mem_cons.mpr ⟨ze_getL (by decide +kernel) fl_X3_15 rfl (by decide), ?_⟩
  refine List.forall_mem_cons.mpr ⟨ze_iconst (n := 5) (by decide +kernel) (by decide), ?_⟩
  refine List.forall_mem_cons.mpr ⟨ze_iald (by decide +kernel), ?_⟩
  refine List.forall_mem_cons.mpr ⟨ze_istoreF_n (k := 1) (by decide +kernel) rfl (by decide), ?_⟩
  refine List.forall_mem_cons.mpr ⟨ze_aload_n (k := 0) (by decide +kernel) rfl, ?_⟩
  refine List.forall_mem_cons.mpr ⟨ze_getL (by decide +kernel) fl_X3_15 rfl (by decide), ?_⟩
  refine List.forall_mem_cons.mpr ⟨ze_iconst (n := 4) (by decide +kernel) (by decide), ?_⟩
  refine List.forall_mem_cons.mpr ⟨ze_iconst (n := 0) (by decide +kernel) (by decide), ?_⟩
  refine List.forall_mem_cons.mpr ⟨ze_iastoreF (by decide +kernel), ?_⟩
  refine List.forall_mem_cons.mpr ⟨ze_aload_n (k := 0) (by decide +kernel) rfl, ?_⟩
  refine List.forall_mem_cons.mpr ⟨ze_getL (by decide +kernel) fl_X3_15 rfl (by decide), ?_⟩
  refine List.forall_mem_cons.mpr ⟨ze_iconst (n := 5) (by decide +kernel) (by decide), ?_⟩
  refine List.forall_mem_cons.mpr ⟨ze_iconst (n := 0) (by decide +kernel) (by decide), ?_⟩
  refine List.forall_mem_cons.mpr ⟨ze_iastoreF (by decide +kernel), ?_⟩
  refine List.forall_mem_cons.mpr ⟨ze_iload_n (k := 1) (by decide +kernel) rfl, ?_⟩
  refine List.forall_mem_cons.mpr ⟨ze_iret (by decide +kernel) rfl, ?_⟩
  exact fun _ h => absurd h List.not_mem_nil
theorem vX3_takeNoticeBack {l : Launch} {G : GT} {d : Nat} {av : List Value} {Q : Po} {σ : Mm} (cs : List (Nat × List Nat)) (k : Nat) (h : vc l G d mX3_takeNoticeBack TX3_takeNoticeBack Q cs k TX3_takeNoticeBack (lv_args 0 av) [] σ) (hlen : (lg_sl av).length ≤ mX3_takeNoticeBack.2.2.1 := by exact Nat.le_of_ble_eq_true rfl) : MW l G d mX3_takeNoticeBack av σ Q := mw_vc TX3_takeNoticeBack_ok mc_X3_takeNoticeBack rfl hlen cs k rfl h
theorem wX3_takeNoticeBack {l : Launch} {G : GT} {d : Nat} {Q : Po} {pc : Nat} {lv : Lv} {st : List Value} {σ : Mm} (cs : List (Nat × List Nat)) (k : Nat) (h : vc l G d mX3_takeNoticeBack TX3_takeNoticeBack Q cs k (drp TX3_takeNoticeBack pc) lv st σ) (hpc : hdp (drp TX3_takeNoticeBack pc) = pc := by rfl) : Wp l G d mX3_takeNoticeBack pc lv st σ Q := wp_vc TX3_takeNoticeBack_ok cs k hpc h
def TX3_tellInstalment : List In := [(0, 1, zt_iload 1), (1, 2, zt_aload 0), (2, 5, zt_getL 12 1), (5, 6, zt_ic 0), (6, 7, zt_iald), (7, 10, zt_icmp_le 20), (10, 11, zt_iload 1), (11, 12, zt_aload 0), (12, 15, zt_getL 12 0), (15, 16, zt_ic 1), (16, 17, zt_iald), (17, 20, zt_icmp_lt 22), (20, 21, zt_ic (-1)), (21, 22, zt_iret), (22, 23, zt_iload 2), (23, 26, zt_if_lt 33), (26, 27, zt_iload 2), (27, 30, zt_ic 9999), (30, 33, zt_icmp_le 36), (33, 35, zt_ic (-2)), (35, 36, zt_iret), (36, 37, zt_aload 0), (37, 40, zt_getL 12 1), (40, 42, zt_ic 12), (42, 43, zt_iload 1), (43, 44, zt_iadd), (44, 45, zt_iald), (45, 46, zt_istoreF 3), (46, 47, zt_iload 3), (47, 48, zt_iload 2), (48, 51, zt_icmp_ne 54), (51, 53, zt_ic (-3)), (53, 54, zt_iret), (54, 55, zt_aload 0), (55, 58, zt_getL 12 1), (58, 60, zt_ic 12), (60, 61, zt_iload 1), (61, 62, zt_iadd), (62, 63, zt_iload 2), (63, 64, zt_iastoreF), (64, 65, zt_aload 0), (65, 66, zt_iload 1), (66, 69, zt_putI 12 3), (69, 70, zt_iload 3), (70, 71, zt_iret)]
theorem TX3_tellInstalment_ok : ∀ i ∈ TX3_tellInstalment, Ent mX3_tellInstalment i := by
  refine List.forall_mem_cons.mpr ⟨ze_iload_n (k := 1) (by decide +kernel) rfl, ?_⟩
  refine List.forall_mem_cons.mpr ⟨ze_aload_n (k := 0) (by decide +kernel) rfl, ?_⟩
  refine List.forall_mem_cons.mpr ⟨ze_getL (by decide +kernel) fl_X3_15 rfl (by decide), ?_⟩
  refine List.forall_mem_cons.mpr ⟨ze_iconst (n := 0) (by decide +kernel) (by decide), ?_⟩
  refine List.forall_mem_cons.mpr ⟨ze_iald (by decide +kernel), ?_⟩
  refine List.forall_mem_cons.mpr ⟨ze_icmp_le (off := 13) (by decide +kernel) (by decide), ?_⟩
  refine List.forall_mem_cons.mpr ⟨ze_iload_n (k := 1) (by decide +kernel) rfl, ?_⟩
  refine List.forall_mem_cons.mpr ⟨ze_aload_n (k := 0) (by decide +kernel) rfl, ?_⟩
  refine List.forall_mem_cons.mpr ⟨ze_getL (by decide +kernel) fl_X3_9 rfl (by decide), ?_⟩
  refine List.forall_mem_cons.mpr ⟨ze_iconst (n := 1) (by decide +kernel) (by decide), ?_⟩
  refine List.forall_mem_cons.mpr ⟨ze_iald (by decide +kernel), ?_⟩
  refine List.forall_mem_cons.mpr ⟨ze_icmp_lt (off := 5) (by decide +kernel) (by decide), ?_⟩
  refine List.forall_mem_cons.mpr ⟨ze_iconst (n := -1) (by decide +kernel) (by decide), ?_⟩
  refine List.forall_mem_cons.mpr ⟨ze_iret (by decide +kernel) rfl, ?_⟩
  refine List.forall_mem_cons.mpr ⟨ze_iload_n (k := 2) (by decide +kernel) rfl, ?_⟩
  refine List.forall_mem_cons.mpr ⟨ze_if_lt (off := 10) (by decide +kernel) (by decide), ?_⟩
  refine List.forall_mem_cons.mpr ⟨ze_iload_n (k := 2) (by decide +kernel) rfl, ?_⟩
  refine List.forall_mem_cons.mpr ⟨ze_sipush (n := 9999) (by decide +kernel) (by decide), ?_⟩
  refine List.forall_mem_cons.mpr ⟨ze_icmp_le (off := 6) (by decide +kernel) (by decide), ?_⟩
  refine List.forall_mem_cons.mpr ⟨ze_bipush (n := -2) (by decide +kernel) (by decide), ?_⟩
  refine List.forall_mem_cons.mpr ⟨ze_iret (by decide +kernel) rfl, ?_⟩
  refine List.forall_mem_cons.mpr ⟨ze_aload_n (k := 0) (by decide +kernel) rfl, ?_⟩
  refine List.forall_mem_cons.mpr ⟨ze_getL (by decide +kernel) fl_X3_15 rfl (by decide), ?_⟩
  refine List.forall_mem_cons.mpr ⟨ze_bipush (n := 12) (by decide +kernel) (by decide), ?_⟩
  refine List.forall_mem_cons.mpr ⟨ze_iload_n (k := 1) (by decide +kernel) rfl, ?_⟩
  refine List.forall_mem_cons.mpr ⟨ze_iadd (by decide +kernel), ?_⟩
  refine List.forall_mem_cons.mpr ⟨ze_iald (by decide +kernel), ?_⟩
  refine List.forall_mem_cons.mpr ⟨ze_istoreF_n (k := 3) (by decide +kernel) rfl (by decide), ?_⟩
  refine List.forall_mem_cons.mpr ⟨ze_iload_n (k := 3) (by decide +kernel) rfl, ?_⟩
  refine List.forall_mem_cons.mpr ⟨ze_iload_n (k := 2) (by decide +kernel) rfl, ?_⟩
  refine List.forall_mem_cons.mpr ⟨ze_icmp_ne (off := 6) (by decide +kernel) (by decide), ?_⟩
  refine List.forall_mem_cons.mpr ⟨ze_bipush (n := -3) (by decide +kernel) (by decide), ?_⟩
  refine List.forall_mem_cons.mpr ⟨ze_iret (by decide +kernel) rfl, ?_⟩
  refine List.forall_mem_cons.mpr ⟨ze_aload_n (k := 0) (by decide +kernel) rfl, ?_⟩
  refine List.forall_mem_cons.mpr ⟨ze_getL (by decide +kernel) fl_X3_15 rfl (by decide), ?_⟩
  refine List.forall_mem_cons.mpr ⟨ze_bipush (n := 12) (by decide +kernel) (by decide), ?_⟩
  refine List.forall_mem_cons.mpr ⟨ze_iload_n (k := 1) (by decide +kernel) rfl, ?_⟩
  refine List.forall_mem_cons.mpr ⟨ze_iadd (by decide +kernel), ?_⟩
  refine List.forall_mem_cons.mpr ⟨ze_iload_n (k := 2) (by decide +kernel) rfl, ?_⟩
  refine List.forall_mem_cons.mpr ⟨ze_iastoreF (by decide +kernel), ?_⟩
  refine List.forall_mem_cons.mpr ⟨ze_aload_n (k := 0) (by decide +kernel) rfl, ?_⟩
  refine List.forall_mem_cons.mpr ⟨ze_iload_n (k := 1) (by decide +kernel) rfl, ?_⟩
  refine List.forall_mem_cons.mpr ⟨ze_putI (by decide +kernel) fl_X3_32 ⟨_, _, _, rfl, rfl, by decide +kernel⟩ rfl, ?_⟩
  refine List.forall_mem_cons.mpr ⟨ze_iload_n (k := 3) (by decide +kernel) rfl, ?_⟩
  refine List.forall_mem_cons.mpr ⟨ze_iret (by decide +kernel) rfl, ?_⟩
  exact fun _ h => absurd h List.not_mem_nil
theorem vX3_tellInstalment {l : Launch} {G : GT} {d : Nat} {av : List Value} {Q : Po} {σ : Mm} (cs : List (Nat × List Nat)) (k : Nat) (h : vc l G d mX3_tellInstalment TX3_tellInstalment Q cs k TX3_tellInstalment (lv_args 0 av) [] σ) (hlen : (lg_sl av).length ≤ mX3_tellInstalment.2.2.1 := by exact Nat.le_of_ble_eq_true rfl) : MW l G d mX3_tellInstalment av σ Q := mw_vc TX3_tellInstalment_ok mc_X3_tellInstalment rfl hlen cs k rfl h
theorem wX3_tellInstalment {l : Launch} {G : GT} {d : Nat} {Q : Po} {pc : Nat} {lv : Lv} {st : List Value} {σ : Mm} (cs : List (Nat × List Nat)) (k : Nat) (h : vc l G d mX3_tellInstalment TX3_tellInstalment Q cs k (drp TX3_tellInstalment pc) lv st σ) (hpc : hdp (drp TX3_tellInstalment pc) = pc := by rfl) : Wp l G d mX3_tellInstalment pc lv st σ Q := wp_vc TX3_tellInstalment_ok cs k hpc h
def TX3_tellRate : List In := [(0, 1, zt_iload 1), (1, 2, zt_aload 0), (2, 5, zt_getL 12 1), (5, 6, zt_ic 0), (6, 7, zt_iald), (7, 10, zt_icmp_lt 20), (10, 11, zt_iload 1), (11, 12, zt_aload 0), (12, 15, zt_getL 12 0), (15, 16, zt_ic 1), (16, 17, zt_iald), (17, 20, zt_icmp_lt 22), (20, 21, zt_ic (-1)), (21, 22, zt_iret), (22, 23, zt_iload 2), (23, 24, zt_aload 0), (24, 27, zt_getL 12 1), (27, 28, zt_ic 1), (28, 29, zt_iald), (29, 32, zt_icmp_lt 51), (32, 33, zt_iload 2), (33, 34, zt_aload 0), (34, 37, zt_getL 12 1), (37, 38, zt_ic 1), (38, 39, zt_iald), (39, 40, zt_iload 1), (40, 41, zt_iadd), (41, 42, zt_aload 0), (42, 45, zt_getL 12 1), (45, 46, zt_ic 0), (46, 47, zt_iald), (47, 48, zt_isub), (48, 51, zt_icmp_le 53), (51, 52, zt_ic (-1)), (52, 53, zt_iret), (53, 54, zt_iload 3), (54, 57, zt_if_lt 64), (57, 58, zt_iload 3), (58, 61, zt_ic 999), (61, 64, zt_icmp_le 67), (64, 66, zt_ic (-2)), (66, 67, zt_iret), (67, 69, zt_ic 25), (69, 70, zt_iload 1), (70, 71, zt_iload 2), (71, 74, zt_callSF mX8_nodeOf 2), (74, 75, zt_iadd), (75, 77, zt_istoreF 4), (77, 78, zt_aload 0), (78, 81, zt_getL 12 1), (81, 83, zt_iload 4), (83, 84, zt_iald), (84, 86, zt_istoreF 5), (86, 88, zt_iload 5), (88, 89, zt_iload 3), (89, 92, zt_icmp_ne 95), (92, 94, zt_ic (-3)), (94, 95, zt_iret), (95, 96, zt_aload 0), (96, 99, zt_getL 12 1), (99, 101, zt_iload 4), (101, 102, zt_iload 3), (102, 103, zt_iastoreF), (103, 104, zt_aload 0), (104, 105, zt_iload 1), (105, 108, zt_putI 12 3), (108, 110, zt_iload 5), (110, 111, zt_iret)]
theorem TX3_tellRate_ok : ∀ i ∈ TX3_tellRate, Ent mX3_tellRate i := by
  refine List.forall_mem_cons.mpr ⟨ze_iload_n (k := 1) (by decide +kernel) rfl, ?_⟩
  refine List.forall_mem_cons.mpr ⟨ze_aload_n (k := 0) (by decide +kernel) rfl, ?_⟩
  refine List.forall_mem_cons.mpr ⟨ze_getL (by decide +kernel) fl_X3_15 rfl (by decide), ?_⟩
  refine List.forall_mem_cons.mpr ⟨ze_iconst (n := 0) (by decide +kernel) (by decide), ?_⟩
  refine List.forall_mem_cons.mpr ⟨ze_iald (by decide +kernel), ?_⟩
  refine List.forall_mem_cons.mpr ⟨ze_icmp_lt (off := 13) (by decide +kernel) (by decide), ?_⟩
  refine List.forall_mem_cons.mpr ⟨ze_iload_n (k := 1) (by decide +kernel) rfl, ?_⟩
  refine List.forall_mem_cons.mpr ⟨ze_aload_n (k := 0) (by decide +kernel) rfl, ?_⟩
  refine List.forall_mem_cons.mpr ⟨ze_getL (by decide +kernel) fl_X3_9 rfl (by decide), ?_⟩
  refine List.forall_mem_cons.mpr ⟨ze_iconst (n := 1) (by decide +kernel) (by decide), ?_⟩
  refine List.forall_mem_cons.mpr ⟨ze_iald (by decide +kernel), ?_⟩
  refine List.forall_mem_cons.mpr ⟨ze_icmp_lt (off := 5) (by decide +kernel) (by decide), ?_⟩
  refine List.forall_mem_cons.mpr ⟨ze_iconst (n := -1) (by decide +kernel) (by decide), ?_⟩
  refine List.forall_mem_cons.mpr ⟨ze_iret (by decide +kernel) rfl, ?_⟩
  refine List.forall_mem_cons.mpr ⟨ze_iload_n (k := 2) (by decide +kernel) rfl, ?_⟩
  refine List.forall_mem_cons.mpr ⟨ze_aload_n (k := 0) (by decide +kernel) rfl, ?_⟩
  refine List.forall_mem_cons.mpr ⟨ze_getL (by decide +kernel) fl_X3_15 rfl (by decide), ?_⟩
  refine List.forall_mem_cons.mpr ⟨ze_iconst (n := 1) (by decide +kernel) (by decide), ?_⟩
  refine List.forall_mem_cons.mpr ⟨ze_iald (by decide +kernel), ?_⟩
  refine List.forall_mem_cons.mpr ⟨ze_icmp_lt (off := 22) (by decide +kernel) (by decide), ?_⟩
  refine List.forall_mem_cons.mpr ⟨ze_iload_n (k := 2) (by decide +kernel) rfl, ?_⟩
  refine List.forall_mem_cons.mpr ⟨ze_aload_n (k := 0) (by decide +kernel) rfl, ?_⟩
  refine List.forall_mem_cons.mpr ⟨ze_getL (by decide +kernel) fl_X3_15 rfl (by decide), ?_⟩
  refine List.forall_mem_cons.mpr ⟨ze_iconst (n := 1) (by decide +kernel) (by decide), ?_⟩
  refine List.forall_mem_cons.mpr ⟨ze_iald (by decide +kernel), ?_⟩
  refine List.forall_mem_cons.mpr ⟨ze_iload_n (k := 1) (by decide +kernel) rfl, ?_⟩
  refine List.forall_mem_cons.mpr ⟨ze_iadd (by decide +kernel), ?_⟩
  refine List.forall_mem_cons.mpr ⟨ze_aload_n (k := 0) (by decide +kernel) rfl, ?_⟩
  refine List.forall_mem_cons.mpr ⟨ze_getL (by decide +kernel) fl_X3_15 rfl (by decide), ?_⟩
  refine List.forall_mem_cons.mpr ⟨ze_iconst (n := 0) (by decide +kernel) (by decide), ?_⟩
  refine List.forall_mem_cons.mpr ⟨ze_iald (by decide +kernel), ?_⟩
  refine List.forall_mem_cons.mpr ⟨ze_isub (by decide +kernel), ?_⟩
  refine List.forall_mem_cons.mpr ⟨ze_icmp_le (off := 5) (by decide +kernel) (by decide), ?_⟩
  refine List.forall_mem_cons.mpr ⟨ze_iconst (n := -1) (by decide +kernel) (by decide), ?_⟩
  refine List.forall_mem_cons.mpr ⟨ze_iret (by decide +kernel) rfl, ?_⟩
  refine List.forall_mem_cons.mpr ⟨ze_iload_n (k := 3) (by decide +kernel) rfl, ?_⟩
  refine List.forall_mem_cons.mpr ⟨ze_if_lt (off := 10) (by decide +kernel) (by decide), ?_⟩
  refine List.forall_mem_cons.mpr ⟨ze_iload_n (k := 3) (by decide +kernel) rfl, ?_⟩
  refine List.forall_mem_cons.mpr ⟨ze_sipush (n := 999) (by decide +kernel) (by decide), ?_⟩
  refine List.forall_mem_cons.mpr ⟨ze_icmp_le (off := 6) (by decide +kernel) (by decide), ?_⟩
  refine List.forall_mem_cons.mpr ⟨ze_bipush (n := -2) (by decide +kernel) (by decide), ?_⟩
  refine List.forall_mem_cons.mpr ⟨ze_iret (by decide +kernel) rfl, ?_⟩
  refine List.forall_mem_cons.mpr ⟨ze_bipush (n := 25) (by decide +kernel) (by decide), ?_⟩
  refine List.forall_mem_cons.mpr ⟨ze_iload_n (k := 1) (by decide +kernel) rfl, ?_⟩
  refine List.forall_mem_cons.mpr ⟨ze_iload_n (k := 2) (by decide +kernel) rfl, ?_⟩
  refine List.forall_mem_cons.mpr ⟨ze_callSF (idx := 78) (by decide +kernel) ml_X3_78 ms_X8_nodeOf, ?_⟩
  refine List.forall_mem_cons.mpr ⟨ze_iadd (by decide +kernel), ?_⟩
  refine List.forall_mem_cons.mpr ⟨ze_istoreF (by decide +kernel) (by decide), ?_⟩
  refine List.forall_mem_cons.mpr ⟨ze_aload_n (k := 0) (by decide +kernel) rfl, ?_⟩
  refine List.forall_mem_cons.mpr ⟨ze_getL (by decide +kernel) fl_X3_15 rfl (by decide), ?_⟩
  refine List.forall_mem_cons.mpr ⟨ze_iload (by decide +kernel), ?_⟩
  refine List.forall_mem_cons.mpr ⟨ze_iald (by decide +kernel), ?_⟩
  refine List.forall_mem_cons.mpr ⟨ze_istoreF (by decide +kernel) (by decide), ?_⟩
  refine List.forall_mem_cons.mpr ⟨ze_iload (by decide +kernel), ?_⟩
  refine List.forall_mem_cons.mpr ⟨ze_iload_n (k := 3) (by decide +kernel) rfl, ?_⟩
  refine List.forall_mem_cons.mpr ⟨ze_icmp_ne (off := 6) (by decide +kernel) (by decide), ?_⟩
  refine List.forall_mem_cons.mpr ⟨ze_bipush (n := -3) (by decide +kernel) (by decide), ?_⟩
  refine List.forall_mem_cons.mpr ⟨ze_iret (by decide +kernel) rfl, ?_⟩
  refine List.forall_mem_cons.mpr ⟨ze_aload_n (k := 0) (by decide +kernel) rfl, ?_⟩
  refine List.forall_mem_cons.mpr ⟨ze_getL (by decide +kernel) fl_X3_15 rfl (by decide), ?_⟩
  refine List.forall_mem_cons.mpr ⟨ze_iload (by decide +kernel), ?_⟩
  refine List.forall_mem_cons.mpr ⟨ze_iload_n (k := 3) (by decide +kernel) rfl, ?_⟩
  refine List.forall_mem_cons.mpr ⟨ze_iastoreF (by decide +kernel), ?_⟩
  refine List.forall_mem_cons.mpr ⟨ze_aload_n (k := 0) (by decide +kernel) rfl, ?_⟩
  refine List.forall_mem_cons.mpr ⟨ze_iload_n (k := 1) (by decide +kernel) rfl, ?_⟩
  refine List.forall_mem_cons.mpr ⟨ze_putI (by decide +kernel) fl_X3_32 ⟨_, _, _, rfl, rfl, by decide +kernel⟩ rfl, ?_⟩
  refine List.forall_mem_cons.mpr ⟨ze_iload (by decide +kernel), ?_⟩
  refine List.forall_mem_cons.mpr ⟨ze_iret (by decide +kernel) rfl, ?_⟩
  exact fun _ h => absurd h List.not_mem_nil
theorem vX3_tellRate {l : Launch} {G : GT} {d : Nat} {av : List Value} {Q : Po} {σ : Mm} (cs : List (Nat × List Nat)) (k : Nat) (h : vc l G d mX3_tellRate TX3_tellRate Q cs k TX3_tellRate (lv_args 0 av) [] σ) (hlen : (lg_sl av).length ≤ mX3_tellRate.2.2.1 := by exact Nat.le_of_ble_eq_true rfl) : MW l G d mX3_tellRate av σ Q := mw_vc TX3_tellRate_ok mc_X3_tellRate rfl hlen cs k rfl h
theorem wX3_tellRate {l : Launch} {G : GT} {d : Nat} {Q : Po} {pc : Nat} {lv : Lv} {st : List Value} {σ : Mm} (cs : List (Nat × List Nat)) (k : Nat) (h : vc l G d mX3_tellRate TX3_tellRate Q cs k (drp TX3_tellRate pc) lv st σ) (hpc : hdp (drp TX3_tellRate pc) = pc := by rfl) : Wp l G d mX3_tellRate pc lv st σ Q := wp_vc TX3_tellRate_ok cs k hpc h
def TX3_carryOut : List In := [(0, 1, zt_iload 1), (1, 4, zt_if_eq 31), (4, 5, zt_iload 1), (5, 6, zt_aload 0), (6, 9, zt_getL 12 2), (9, 10, zt_aload 0), (10, 13, zt_getL 12 1), (13, 14, zt_ic 0), (14, 15, zt_iald), (15, 16, zt_aload 0), (16, 19, zt_getL 12 1), (19, 20, zt_ic 3), (20, 21, zt_iald), (21, 24, zt_callVF mX8_lastAllowed 2 16), (24, 27, zt_icmp_gt 31), (27, 28, zt_ic 1), (28, 31, zt_goto 32), (31, 32, zt_ic 0), (32, 33, zt_istoreF 2), (33, 34, zt_iload 2), (34, 37, zt_if_eq 46), (37, 38, zt_aload 0), (38, 41, zt_getL 12 1), (41, 42, zt_ic 4), (42, 43, zt_iald), (43, 46, zt_if_eq 49), (46, 48, zt_ic (-3)), (48, 49, zt_iret), (49, 50, zt_aload 0), (50, 51, zt_iload 1), (51, 54, zt_callVF mX3_giveNotice 1 12), (54, 55, zt_pop), (55, 56, zt_aload 0), (56, 57, zt_iload 1), (57, 58, zt_ic 1), (58, 61, zt_icmp_ne 65), (61, 62, zt_ic 2), (62, 65, zt_goto 66), (65, 66, zt_ic 3), (66, 69, zt_putI 12 3), (69, 70, zt_iload 1), (70, 71, zt_iret)]
theorem TX3_carryOut_ok : ∀ i ∈ TX3_carryOut, Ent mX3_carryOut i := by
  refine List.forall_mem_cons.mpr ⟨ze_iload_n (k := 1) (by decide +kernel) rfl, ?_⟩
  refine List.forall_mem_cons.mpr ⟨ze_if_eq (off := 30) (by decide +kernel) (by decide), ?_⟩
  refine List.forall_mem_cons.mpr ⟨ze_iload_n (k := 1) (by decide +kernel) rfl, ?_⟩
  refine List.forall_mem_cons.mpr ⟨ze_aload_n (k := 0) (by decide +kernel) rfl, ?_⟩
  refine List.forall_mem_cons.mpr ⟨ze_getL (by decide +kernel) fl_X3_18 rfl (by decide), ?_⟩
  refine List.forall_mem_cons.mpr ⟨ze_aload_n (k := 0) (by decide +kernel) rfl, ?_⟩
  refine List.forall_mem_cons.mpr ⟨ze_getL (by decide +kernel) fl_X3_15 rfl (by decide), ?_⟩
  refine List.forall_mem_cons.mpr ⟨ze_iconst (n := 0) (by decide +kernel) (by decide), ?_⟩
  refine List.forall_mem_cons.mpr ⟨ze_iald (by decide +kernel), ?_⟩
  refine List.forall_mem_cons.mpr ⟨ze_aload_n (k := 0) (by decide +kernel) rfl, ?_⟩
  refine List.forall_mem_cons.mpr ⟨ze_getL (by decide +kernel) fl_X3_15 rfl (by decide), ?_⟩
  refine List.forall_mem_cons.mpr ⟨ze_iconst (n := 3) (by decide +kernel) (by decide), ?_⟩
  refine List.forall_mem_cons.mpr ⟨ze_iald (by decide +kernel), ?_⟩
  refine List.forall_mem_cons.mpr ⟨ze_callVF (idx := 90) (by decide +kernel) ml_X3_90 mv_X8_lastAllowed rfl, ?_⟩
  refine List.forall_mem_cons.mpr ⟨ze_icmp_gt (off := 7) (by decide +kernel) (by decide), ?_⟩
  refine List.forall_mem_cons.mpr ⟨ze_iconst (n := 1) (by decide +kernel) (by decide), ?_⟩
  refine List.forall_mem_cons.mpr ⟨ze_goto (off := 4) (by decide +kernel) (by decide), ?_⟩
  refine List.forall_mem_cons.mpr ⟨ze_iconst (n := 0) (by decide +kernel) (by decide), ?_⟩
  refine List.forall_mem_cons.mpr ⟨ze_istoreF_n (k := 2) (by decide +kernel) rfl (by decide), ?_⟩
  refine List.forall_mem_cons.mpr ⟨ze_iload_n (k := 2) (by decide +kernel) rfl, ?_⟩
  refine List.forall_mem_cons.mpr ⟨ze_if_eq (off := 12) (by decide +kernel) (by decide), ?_⟩
  refine List.forall_mem_cons.mpr ⟨ze_aload_n (k := 0) (by decide +kernel) rfl, ?_⟩
  refine List.forall_mem_cons.mpr ⟨ze_getL (by decide +kernel) fl_X3_15 rfl (by decide), ?_⟩
  refine List.forall_mem_cons.mpr ⟨ze_iconst (n := 4) (by decide +kernel) (by decide), ?_⟩
  refine List.forall_mem_cons.mpr ⟨ze_iald (by decide +kernel), ?_⟩
  refine List.forall_mem_cons.mpr ⟨ze_if_eq (off := 6) (by decide +kernel) (by decide), ?_⟩
  refine List.forall_mem_cons.mpr ⟨ze_bipush (n := -3) (by decide +kernel) (by decide), ?_⟩
  refine List.forall_mem_cons.mpr ⟨ze_iret (by decide +kernel) rfl, ?_⟩
  refine List.forall_mem_cons.mpr ⟨ze_aload_n (k := 0) (by decide +kernel) rfl, ?_⟩
  refine List.forall_mem_cons.mpr ⟨ze_iload_n (k := 1) (by decide +kernel) rfl, ?_⟩
  refine List.forall_mem_cons.mpr ⟨ze_callVF (idx := 40) (by decide +kernel) ml_X3_40 mv_X3_giveNotice rfl, ?_⟩
  refine List.forall_mem_cons.mpr ⟨ze_pop (by decide +kernel), ?_⟩
  refine List.forall_mem_cons.mpr ⟨ze_aload_n (k := 0) (by decide +kernel) rfl, ?_⟩
  refine List.forall_mem_cons.mpr ⟨ze_iload_n (k := 1) (by decide +kernel) rfl, ?_⟩
  refine List.forall_mem_cons.mpr ⟨ze_iconst (n := 1) (by decide +kernel) (by decide), ?_⟩
  refine List.forall_mem_cons.mpr ⟨ze_icmp_ne (off := 7) (by decide +kernel) (by decide), ?_⟩
  refine List.forall_mem_cons.mpr ⟨ze_iconst (n := 2) (by decide +kernel) (by decide), ?_⟩
  refine List.forall_mem_cons.mpr ⟨ze_goto (off := 4) (by decide +kernel) (by decide), ?_⟩
  refine List.forall_mem_cons.mpr ⟨ze_iconst (n := 3) (by decide +kernel) (by decide), ?_⟩
  refine List.forall_mem_cons.mpr ⟨ze_putI (by decide +kernel) fl_X3_32 ⟨_, _, _, rfl, rfl, by decide +kernel⟩ rfl, ?_⟩
  refine List.forall_mem_cons.mpr ⟨ze_iload_n (k := 1) (by decide +kernel) rfl, ?_⟩
  refine List.forall_mem_cons.mpr ⟨ze_iret (by decide +kernel) rfl, ?_⟩
  exact fun _ h => absurd h List.not_mem_nil
theorem vX3_carryOut {l : Launch} {G : GT} {d : Nat} {av : List Value} {Q : Po} {σ : Mm} (cs : List (Nat × List Nat)) (k : Nat) (h : vc l G d mX3_carryOut TX3_carryOut Q cs k TX3_carryOut (lv_args 0 av) [] σ) (hlen : (lg_sl av).length ≤ mX3_carryOut.2.2.1 := by exact Nat.le_of_ble_eq_true rfl) : MW l G d mX3_carryOut av σ Q := mw_vc TX3_carryOut_ok mc_X3_carryOut rfl hlen cs k rfl h
theorem wX3_carryOut {l : Launch} {G : GT} {d : Nat} {Q : Po} {pc : Nat} {lv : Lv} {st : List Value} {σ : Mm} (cs : List (Nat × List Nat)) (k : Nat) (h : vc l G d mX3_carryOut TX3_carryOut Q cs k (drp TX3_carryOut pc) lv st σ) (hpc : hdp (drp TX3_carryOut pc) = pc := by rfl) : Wp l G d mX3_carryOut pc lv st σ Q := wp_vc TX3_carryOut_ok cs k hpc h
def TX3_takeDeeds : List In := [(0, 1, zt_aload 0), (1, 4, zt_getL 12 1), (4, 5, zt_ic 0), (5, 6, zt_iald), (6, 7, zt_istoreF 2), (7, 8, zt_aload 0), (8, 11, zt_getL 12 1), (11, 12, zt_ic 1), (12, 13, zt_iald), (13, 14, zt_istoreF 3), (14, 15, zt_ic 0), (15, 17, zt_istoreF 4), (17, 18, zt_iload 2), (18, 20, zt_istoreF 5), (20, 22, zt_iload 5), (22, 23, zt_aload 0), (23, 26, zt_getL 12 0), (26, 27, zt_ic 1), (27, 28, zt_iald), (28, 31, zt_icmp_ge 103), (31, 32, zt_iload 3), (32, 34, zt_istoreF 6), (34, 36, zt_iload 6), (36, 37, zt_iload 3), (37, 39, zt_iload 5), (39, 40, zt_iadd), (40, 41, zt_iload 2), (41, 42, zt_isub), (42, 45, zt_icmp_gt 97), (45, 46, zt_aload 1), (46, 49, zt_getL 15 2), (49, 51, zt_iload 5), (51, 53, zt_iload 6), (53, 56, zt_callSF mX8_nodeOf 2), (56, 57, zt_iald), (57, 59, zt_istoreF 7), (59, 61, zt_iload 7), (61, 62, zt_aload 0), (62, 65, zt_getL 12 1), (65, 67, zt_iload 5), (67, 69, zt_iload 6), (69, 72, zt_callSF mX0_deedOf 3), (72, 75, zt_icmp_eq 91), (75, 76, zt_aload 0), (76, 79, zt_getL 12 1), (79, 81, zt_iload 5), (81, 83, zt_iload 6), (83, 85, zt_iload 7), (85, 88, zt_callSF mX0_setDeed 4), (88, 91, zt_iincF 4 1), (91, 94, zt_iincF 6 1), (94, 97, zt_goto 34), (97, 100, zt_iincF 5 1), (100, 103, zt_goto 20), (103, 104, zt_aload 0), (104, 106, zt_iload 4), (106, 109, zt_putI 12 3), (109, 111, zt_iload 4), (111, 114, zt_if_ne 119), (114, 116, zt_ic (-3)), (116, 119, zt_goto 121), (119, 121, zt_iload 4), (121, 122, zt_iret)]
theorem TX3_takeDeeds_ok : ∀ i ∈ TX3_takeDeeds, Ent mX3_takeDeeds i := by
  refine List.forall_mem_cons.mpr ⟨ze_aload_n (k := 0) (by decide +kernel) rfl, ?_⟩
  refine List.forall_mem_cons.mpr ⟨ze_getL (by decide +kernel) fl_X3_15 rfl (by decide), ?_⟩
  refine List.forall_mem_cons.mpr ⟨ze_iconst (n := 0) (by decide +kernel) (by decide), ?_⟩
  refine List.forall_mem_cons.mpr ⟨ze_iald (by decide +kernel), ?_⟩
  refine List.forall_mem_cons.mpr ⟨ze_istoreF_n (k := 2) (by decide +kernel) rfl (by decide), ?_⟩
  refine List.forall_mem_cons.mpr ⟨ze_aload_n (k := 0) (by decide +kernel) rfl, ?_⟩
  refine List.forall_mem_cons.mpr ⟨ze_getL (by decide +kernel) fl_X3_15 rfl (by decide), ?_⟩
  refine List.forall_mem_cons.mpr ⟨ze_iconst (n := 1) (by decide +kernel) (by decide), ?_⟩
  refine List.forall_mem_cons.mpr ⟨ze_iald (by decide +kernel), ?_⟩
  refine List.forall_mem_cons.mpr ⟨ze_istoreF_n (k := 3) (by decide +kernel) rfl (by decide), ?_⟩
  refine List.forall_mem_cons.mpr ⟨ze_iconst (n := 0) (by decide +kernel) (by decide), ?_⟩
  refine List.forall_mem_cons.mpr ⟨ze_istoreF (by decide +kernel) (by decide), ?_⟩
  refine List.forall_mem_cons.mpr ⟨ze_iload_n (k := 2) (by decide +kernel) rfl, ?_⟩
  refine List.forall_mem_cons.mpr ⟨ze_istoreF (by decide +kernel) (by decide), ?_⟩
  refine List.forall_mem_cons.mpr ⟨ze_iload (by decide +kernel), ?_⟩
  refine List.forall_mem_cons.mpr ⟨ze_aload_n (k := 0) (by decide +kernel) rfl, ?_⟩
  refine List.forall_mem_cons.mpr ⟨ze_getL (by decide +kernel) fl_X3_9 rfl (by decide), ?_⟩
  refine List.forall_mem_cons.mpr ⟨ze_iconst (n := 1) (by decide +kernel) (by decide), ?_⟩
  refine List.forall_mem_cons.mpr ⟨ze_iald (by decide +kernel), ?_⟩
  refine List.forall_mem_cons.mpr ⟨ze_icmp_ge (off := 75) (by decide +kernel) (by decide), ?_⟩
  refine List.forall_mem_cons.mpr ⟨ze_iload_n (k := 3) (by decide +kernel) rfl, ?_⟩
  refine List.forall_mem_cons.mpr ⟨ze_istoreF (by decide +kernel) (by decide), ?_⟩
  refine List.forall_mem_cons.mpr ⟨ze_iload (by decide +kernel), ?_⟩
  refine List.forall_mem_cons.mpr ⟨ze_iload_n (k := 3) (by decide +kernel) rfl, ?_⟩
  refine List.forall_mem_cons.mpr ⟨ze_iload (by decide +kernel), ?_⟩
  refine List.forall_mem_cons.mpr ⟨ze_iadd (by decide +kernel), ?_⟩
  refine List.forall_mem_cons.mpr ⟨ze_iload_n (k := 2) (by decide +kernel) rfl, ?_⟩
  refine List.forall_mem_cons.mpr ⟨ze_isub (by decide +kernel), ?_⟩
  refine List.forall_mem_cons.mpr ⟨ze_icmp_gt (off := 55) (by decide +kernel) (by decide), ?_⟩
  refine List.forall_mem_cons.mpr ⟨ze_aload_n (k := 1) (by decide +kernel) rfl, ?_⟩
  refine List.forall_mem_cons.mpr ⟨ze_getL (by decide +kernel) fl_X3_59 rfl (by decide), ?_⟩
  refine List.forall_mem_cons.mpr ⟨ze_iload (by decide +kernel), ?_⟩
  refine List.forall_mem_cons.mpr ⟨ze_iload (by decide +kernel), ?_⟩
  refine List.forall_mem_cons.mpr ⟨ze_callSF (idx := 78) (by decide +kernel) ml_X3_78 ms_X8_nodeOf, ?_⟩
  refine List.forall_mem_cons.mpr ⟨ze_iald (by decide +kernel), ?_⟩
  refine List.forall_mem_cons.mpr ⟨ze_istoreF (by decide +kernel) (by decide), ?_⟩
  refine List.forall_mem_cons.mpr ⟨ze_iload (by decide +kernel), ?_⟩
  refine List.forall_mem_cons.mpr ⟨ze_aload_n (k := 0) (by decide +kernel) rfl, ?_⟩
  refine List.forall_mem_cons.mpr ⟨ze_getL (by decide +kernel) fl_X3_15 rfl (by decide), ?_⟩
  refine List.forall_mem_cons.mpr ⟨ze_iload (by decide +kernel), ?_⟩
  refine List.forall_mem_cons.mpr ⟨ze_iload (by decide +kernel), ?_⟩
  refine List.forall_mem_cons.mpr ⟨ze_callSF (idx := 74) (by decide +kernel) ml_X3_74 ms_X0_deedOf, ?_⟩
  refine List.forall_mem_cons.mpr ⟨ze_icmp_eq (off := 19) (by decide +kernel) (by decide), ?_⟩
  refine List.forall_mem_cons.mpr ⟨ze_aload_n (k := 0) (by decide +kernel) rfl, ?_⟩
  refine List.forall_mem_cons.mpr ⟨ze_getL (by decide +kernel) fl_X3_15 rfl (by decide), ?_⟩
  refine List.forall_mem_cons.mpr ⟨ze_iload (by decide +kernel), ?_⟩
  refine List.forall_mem_cons.mpr ⟨ze_iload (by decide +kernel), ?_⟩
  refine List.forall_mem_cons.mpr ⟨ze_iload (by decide +kernel), ?_⟩
  refine List.forall_mem_cons.mpr ⟨ze_callSF (idx := 105) (by decide +kernel) ml_X3_105 ms_X0_setDeed, ?_⟩
  refine List.forall_mem_cons.mpr ⟨ze_iincF (n := 1) (by decide +kernel) (by decide) (by decide), ?_⟩
  refine List.forall_mem_cons.mpr ⟨ze_iincF (n := 1) (by decide +kernel) (by decide) (by decide), ?_⟩
  refine List.forall_mem_cons.mpr ⟨ze_goto (off := -60) (by decide +kernel) (by decide), ?_⟩
  refine List.forall_mem_cons.mpr ⟨ze_iincF (n := 1) (by decide +kernel) (by decide) (by decide), ?_⟩
  refine List.forall_mem_cons.mpr ⟨ze_goto (off := -80) (by decide +kernel) (by decide), ?_⟩
  refine List.forall_mem_cons.mpr ⟨ze_aload_n (k := 0) (by decide +kernel) rfl, ?_⟩
  refine List.forall_mem_cons.mpr ⟨ze_iload (by decide +kernel), ?_⟩
  refine List.forall_mem_cons.mpr ⟨ze_putI (by decide +kernel) fl_X3_32 ⟨_, _, _, rfl, rfl, by decide +kernel⟩ rfl, ?_⟩
  refine List.forall_mem_cons.mpr ⟨ze_iload (by decide +kernel), ?_⟩
  refine List.forall_mem_cons.mpr ⟨ze_if_ne (off := 8) (by decide +kernel) (by decide), ?_⟩
  refine List.forall_mem_cons.mpr ⟨ze_bipush (n := -3) (by decide +kernel) (by decide), ?_⟩
  refine List.forall_mem_cons.mpr ⟨ze_goto (off := 5) (by decide +kernel) (by decide), ?_⟩
  refine List.forall_mem_cons.mpr ⟨ze_iload (by decide +kernel), ?_⟩
  refine List.forall_mem_cons.mpr ⟨ze_iret (by decide +kernel) rfl, ?_⟩
  exact fun _ h => absurd h List.not_mem_nil
theorem vX3_takeDeeds {l : Launch} {G : GT} {d : Nat} {av : List Value} {Q : Po} {σ : Mm} (cs : List (Nat × List Nat)) (k : Nat) (h : vc l G d mX3_takeDeeds TX3_takeDeeds Q cs k TX3_takeDeeds (lv_args 0 av) [] σ) (hlen : (lg_sl av).length ≤ mX3_takeDeeds.2.2.1 := by exact Nat.le_of_ble_eq_true rfl) : MW l G d mX3_takeDeeds av σ Q := mw_vc TX3_takeDeeds_ok mc_X3_takeDeeds rfl hlen cs k rfl h
theorem wX3_takeDeeds {l : Launch} {G : GT} {d : Nat} {Q : Po} {pc : Nat} {lv : Lv} {st : List Value} {σ : Mm} (cs : List (Nat × List Nat)) (k : Nat) (h : vc l G d mX3_takeDeeds TX3_takeDeeds Q cs k (drp TX3_takeDeeds pc) lv st σ) (hpc : hdp (drp TX3_takeDeeds pc) = pc := by rfl) : Wp l G d mX3_takeDeeds pc lv st σ Q := wp_vc TX3_takeDeeds_ok cs k hpc h
def TX4_examine : List In := [(0, 1, zt_aload 0), (1, 2, zt_ic 0), (2, 5, zt_putI 13 5), (5, 6, zt_aload 0), (6, 7, zt_ic 0), (7, 10, zt_putI 13 2), (10, 11, zt_aload 0), (11, 14, zt_getL 13 3), (14, 15, zt_ic 0), (15, 18, zt_callSF mJ7_fill_53178 2), (18, 21, zt_gst 206), (21, 22, zt_ic 0), (22, 23, zt_aload 0), (23, 26, zt_getL 13 0), (26, 27, zt_ic 0), (27, 29, zt_ic 14), (29, 32, zt_copyS), (32, 33, zt_iload 1), (33, 34, zt_ic 1), (34, 37, zt_icmp_ne 44), (37, 38, zt_aload 0), (38, 41, zt_callVF mX4_readSteps 0 13), (41, 44, zt_goto 49), (44, 45, zt_aload 0), (45, 46, zt_iload 1), (46, 49, zt_callVF mX4_readClauses 1 13), (49, 50, zt_iret)]
theorem TX4_examine_ok : ∀ i ∈ TX4_examine, Ent mX4_examine i := by
  refine List.forall_mem_cons.mpr ⟨ze_aload_n (k := 0) (by decide +kernel) rfl, ?_⟩
  refine List.forall_mem_cons.mpr ⟨ze_iconst (n := 0) (by decide +kernel) (by decide), ?_⟩
  refine List.forall_mem_cons.mpr ⟨ze_putI (by decide +kernel) fl_X4_27 ⟨_, _, _, rfl, rfl, by decide +kernel⟩ rfl, ?_⟩
  refine List.forall_mem_cons.mpr ⟨ze_aload_n (k := 0) (by decide +kernel) rfl, ?_⟩
  refine List.forall_mem_cons.mpr ⟨ze_iconst (n := 0) (by decide +kernel) (by decide), ?_⟩
  refine List.forall_mem_cons.mpr ⟨ze_putI (by decide +kernel) fl_X4_31 ⟨_, _, _, rfl, rfl, by decide +kernel⟩ rfl, ?_⟩
  refine List.forall_mem_cons.mpr ⟨ze_aload_n (k := 0) (by decide +kernel) rfl, ?_⟩
  refine List.forall_mem_cons.mpr ⟨ze_getL (by decide +kernel) fl_X4_20 rfl (by decide), ?_⟩
  refine List.forall_mem_cons.mpr ⟨ze_iconst (n := 0) (by decide +kernel) (by decide), ?_⟩
  refine List.forall_mem_cons.mpr ⟨ze_callSF (idx := 34) (by decide +kernel) ml_X4_34 ms_J7_fill_53178, ?_⟩
  refine List.forall_mem_cons.mpr ⟨ze_gst (idx := 40) (by decide +kernel) (by decide) (gw (i := 402) (by decide +kernel) rfl), ?_⟩
  refine List.forall_mem_cons.mpr ⟨ze_iconst (n := 0) (by decide +kernel) (by decide), ?_⟩
  refine List.forall_mem_cons.mpr ⟨ze_aload_n (k := 0) (by decide +kernel) rfl, ?_⟩
  refine List.forall_mem_cons.mpr ⟨ze_getL (by decide +kernel) fl_X4_11 rfl (by decide), ?_⟩
  refine List.forall_mem_cons.mpr ⟨ze_iconst (n := 0) (by decide +kernel) (by decide), ?_⟩
  refine List.forall_mem_cons.mpr ⟨ze_bipush (n := 14) (by decide +kernel) (by decide), ?_⟩
  refine List.forall_mem_cons.mpr ⟨ze_copyS (idx := 43) (by decide +kernel) ml_X4_43 jcp.1 jcp.2.1 jcp.2.2, ?_⟩
  refine List.forall_mem_cons.mpr ⟨ze_iload_n (k := 1) (by decide +kernel) rfl, ?_⟩
  refine List.forall_mem_cons.mpr ⟨ze_iconst (n := 1) (by decide +kernel) (by decide), ?_⟩
  refine List.forall_mem_cons.mpr ⟨ze_icmp_ne (off := 10) (by decide +kernel) (by decide), ?_⟩
  refine List.forall_mem_cons.mpr ⟨ze_aload_n (k := 0) (by decide +kernel) rfl, ?_⟩
  refine List.forall_mem_cons.mpr ⟨ze_callVF (idx := 49) (by decide +kernel) ml_X4_49 mv_X4_readSteps rfl, ?_⟩
  refine List.forall_mem_cons.mpr ⟨ze_goto (off := 8) (by decide +kernel) (by decide), ?_⟩
  refine List.forall_mem_cons.mpr ⟨ze_aload_n (k := 0) (by decide +kernel) rfl, ?_⟩
  refine List.forall_mem_cons.mpr ⟨ze_iload_n (k := 1) (by decide +kernel) rfl, ?_⟩
  refine List.forall_mem_cons.mpr ⟨ze_callVF (idx := 53) (by decide +kernel) ml_X4_53 mv_X4_readClauses rfl, ?_⟩
  refine List.forall_mem_cons.mpr ⟨ze_iret (by decide +kernel) rfl, ?_⟩
  exact fun _ h => absurd h List.not_mem_nil
theorem vX4_examine {l : Launch} {G : GT} {d : Nat} {av : List Value} {Q : Po} {σ : Mm} (cs : List (Nat × List Nat)) (k : Nat) (h : vc l G d mX4_examine TX4_examine Q cs k TX4_examine (lv_args 0 av) [] σ) (hlen : (lg_sl av).length ≤ mX4_examine.2.2.1 := by exact Nat.le_of_ble_eq_true rfl) : MW l G d mX4_examine av σ Q := mw_vc TX4_examine_ok mc_X4_examine rfl hlen cs k rfl h
theorem wX4_examine {l : Launch} {G : GT} {d : Nat} {Q : Po} {pc : Nat} {lv : Lv} {st : List Value} {σ : Mm} (cs : List (Nat × List Nat)) (k : Nat) (h : vc l G d mX4_examine TX4_examine Q cs k (drp TX4_examine pc) lv st σ) (hpc : hdp (drp TX4_examine pc) = pc := by rfl) : Wp l G d mX4_examine pc lv st σ Q := wp_vc TX4_examine_ok cs k hpc h
def TX4_part : List In := [(0, 1, zt_iload 1), (1, 4, zt_if_lt 34), (4, 5, zt_iload 1), (5, 6, zt_aload 0), (6, 9, zt_getI 13 2), (9, 12, zt_icmp_ge 34), (12, 13, zt_iload 2), (13, 16, zt_if_lt 34), (16, 17, zt_iload 2), (17, 18, zt_ic 4), (18, 21, zt_icmp_ge 34), (21, 22, zt_aload 0), (22, 25, zt_getL 13 1), (25, 26, zt_iload 1), (26, 27, zt_ic 4), (27, 28, zt_imul), (28, 29, zt_iload 2), (29, 30, zt_iadd), (30, 31, zt_iald), (31, 34, zt_goto 35), (34, 35, zt_ic (-1)), (35, 36, zt_iret)]
theorem TX4_part_ok : ∀ i ∈ TX4_part, Ent mX4_part i := by
  refine List.forall_mem_cons.mpr ⟨ze_iload_n (k := 1) (by decide +kernel) rfl, ?_⟩
  refine List.forall_mem_cons.mpr ⟨ze_if_lt (off := 33) (by decide +kernel) (by decide), ?_⟩
  refine List.forall_mem_cons.mpr ⟨ze_iload_n (k := 1) (by decide +kernel) rfl, ?_⟩
  refine List.forall_mem_cons.mpr ⟨ze_aload_n (k := 0) (by decide +kernel) rfl, ?_⟩
  refine List.forall_mem_cons.mpr ⟨ze_getI (by decide +kernel) fl_X4_31 rfl, ?_⟩
  refine List.forall_mem_cons.mpr ⟨ze_icmp_ge (off := 25) (by decide +kernel) (by decide), ?_⟩
  refine List.forall_mem_cons.mpr ⟨ze_iload_n (k := 2) (by decide +kernel) rfl, ?_⟩
  refine List.forall_mem_cons.mpr ⟨ze_if_lt (off := 21) (by decide +kernel) (by decide), ?_⟩
  refine List.forall_mem_cons.mpr ⟨ze_iload_n (k := 2) (by decide +kernel) rfl, ?_⟩
  refine List.forall_mem_cons.mpr ⟨ze_iconst (n := 4) (by decide +kernel) (by decide), ?_⟩
  refine List.forall_mem_cons.mpr ⟨ze_icmp_ge (off := 16) (by decide +kernel) (by decide), ?_⟩
  refine List.forall_mem_cons.mpr ⟨ze_aload_n (k := 0) (by decide +kernel) rfl, ?_⟩
  refine List.forall_mem_cons.mpr ⟨ze_getL (by decide +kernel) fl_X4_17 rfl (by decide), ?_⟩
  refine List.forall_mem_cons.mpr ⟨ze_iload_n (k := 1) (by decide +kernel) rfl, ?_⟩
  refine List.forall_mem_cons.mpr ⟨ze_iconst (n := 4) (by decide +kernel) (by decide), ?_⟩
  refine List.forall_mem_cons.mpr ⟨ze_imul (by decide +kernel), ?_⟩
  refine List.forall_mem_cons.mpr ⟨ze_iload_n (k := 2) (by decide +kernel) rfl, ?_⟩
  refine List.forall_mem_cons.mpr ⟨ze_iadd (by decide +kernel), ?_⟩
  refine List.forall_mem_cons.mpr ⟨ze_iald (by decide +kernel), ?_⟩
  refine List.forall_mem_cons.mpr ⟨ze_goto (off := 4) (by decide +kernel) (by decide), ?_⟩
  refine List.forall_mem_cons.mpr ⟨ze_iconst (n := -1) (by decide +kernel) (by decide), ?_⟩
  refine List.forall_mem_cons.mpr ⟨ze_iret (by decide +kernel) rfl, ?_⟩
  exact fun _ h => absurd h List.not_mem_nil
theorem vX4_part {l : Launch} {G : GT} {d : Nat} {av : List Value} {Q : Po} {σ : Mm} (cs : List (Nat × List Nat)) (k : Nat) (h : vc l G d mX4_part TX4_part Q cs k TX4_part (lv_args 0 av) [] σ) (hlen : (lg_sl av).length ≤ mX4_part.2.2.1 := by exact Nat.le_of_ble_eq_true rfl) : MW l G d mX4_part av σ Q := mw_vc TX4_part_ok mc_X4_part rfl hlen cs k rfl h
theorem wX4_part {l : Launch} {G : GT} {d : Nat} {Q : Po} {pc : Nat} {lv : Lv} {st : List Value} {σ : Mm} (cs : List (Nat × List Nat)) (k : Nat) (h : vc l G d mX4_part TX4_part Q cs k (drp TX4_part pc) lv st σ) (hpc : hdp (drp TX4_part pc) = pc := by rfl) : Wp l G d mX4_part pc lv st σ Q := wp_vc TX4_part_ok cs k hpc h
def TX4_readClauses : List In := [(0, 1, zt_ic 0), (1, 2, zt_istoreF 2), (2, 3, zt_iload 2), (3, 6, zt_ic 320), (6, 9, zt_icmp_gt 151), (9, 10, zt_aload 0), (10, 13, zt_callVF mX4_skipBlanks 0 13), (13, 16, zt_gst 200), (16, 17, zt_ic 0), (17, 20, zt_gst 200), (20, 21, zt_slen), (21, 22, zt_aload 0), (22, 25, zt_getL 13 4), (25, 26, zt_aload 0), (26, 29, zt_getI 13 5), (29, 32, zt_callVF mX9_at 1 17), (32, 35, zt_callSF mX4_placeOf 4), (35, 36, zt_istoreF 3), (36, 37, zt_iload 3), (37, 38, zt_ic (-1)), (38, 41, zt_icmp_eq 78), (41, 42, zt_iload 3), (42, 43, zt_ic 3), (43, 46, zt_icmp_ne 50), (46, 47, zt_ic 1), (47, 50, zt_goto 51), (50, 51, zt_ic 0), (51, 52, zt_iload 1), (52, 53, zt_ic 2), (53, 56, zt_icmp_ne 60), (56, 57, zt_ic 1), (57, 60, zt_goto 61), (60, 61, zt_ic 0), (61, 64, zt_icmp_ne 78), (64, 65, zt_aload 0), (65, 68, zt_getL 13 3), (68, 69, zt_iload 3), (69, 70, zt_iald), (70, 73, zt_gst 201), (73, 74, zt_iload 3), (74, 75, zt_sld .int), (75, 78, zt_icmp_lt 83), (78, 79, zt_aload 0), (79, 82, zt_getI 13 5), (82, 83, zt_iret), (83, 84, zt_aload 0), (84, 87, zt_getL 13 3), (87, 88, zt_iload 3), (88, 89, zt_dup2), (89, 90, zt_iald), (90, 91, zt_ic 1), (91, 92, zt_iadd), (92, 93, zt_iastoreF), (93, 94, zt_aload 0), (94, 95, zt_dup), (95, 98, zt_getI 13 5), (98, 99, zt_ic 1), (99, 100, zt_iadd), (100, 103, zt_putI 13 5), (103, 104, zt_aload 0), (104, 105, zt_iload 3), (105, 108, zt_callVF mX4_readItems 1 13), (108, 110, zt_istoreF 4), (110, 112, zt_iload 4), (112, 113, zt_ic (-1)), (113, 116, zt_icmp_eq 119), (116, 118, zt_iload 4), (118, 119, zt_iret), (119, 120, zt_aload 0), (120, 123, zt_getI 13 5), (123, 124, zt_aload 0), (124, 127, zt_getL 13 4), (127, 130, zt_getI 17 1), (130, 133, zt_icmp_lt 135), (133, 134, zt_ic (-1)), (134, 135, zt_iret), (135, 136, zt_aload 0), (136, 137, zt_dup), (137, 140, zt_getI 13 5), (140, 141, zt_ic 1), (141, 142, zt_iadd), (142, 145, zt_putI 13 5), (145, 148, zt_iincF 2 1), (148, 151, zt_goto 2), (151, 152, zt_aload 0), (152, 155, zt_getI 13 5), (155, 156, zt_iret)]
theorem TX4_readClauses_ok : ∀ i ∈ TX4_readClauses, Ent mX4_readClauses i := by
  refine List.forall_mem_cons.mpr ⟨ze_iconst (n := 0) (by decide +kernel) (by decide), ?_⟩
  refine List.forall_mem_cons.mpr ⟨ze_istoreF_n (k := 2) (by decide +kernel) rfl (by decide), ?_⟩
  refine List.forall_mem_cons.mpr ⟨ze_iload_n (k := 2) (by decide +kernel) rfl, ?_⟩
  refine List.forall_mem_cons.mpr ⟨ze_sipush (n := 320) (by decide +kernel) (by decide), ?_⟩
  refine List.forall_mem_cons.mpr ⟨ze_icmp_gt (off := 145) (by decide +kernel) (by decide), ?_⟩
  refine List.forall_mem_cons.mpr ⟨ze_aload_n (k := 0) (by decide +kernel) rfl, ?_⟩
  refine List.forall_mem_cons.mpr ⟨ze_callVF (idx := 59) (by decide +kernel) ml_X4_59 mv_X4_skipBlanks rfl, ?_⟩
  refine List.forall_mem_cons.mpr ⟨ze_gst (idx := 62) (by decide +kernel) (by decide) (gw (i := 445) (by decide +kernel) rfl), ?_⟩
  refine List.forall_mem_cons.mpr ⟨ze_iconst (n := 0) (by decide +kernel) (by decide), ?_⟩
  refine List.forall_mem_cons.mpr ⟨ze_gst (idx := 62) (by decide +kernel) (by decide) (gw (i := 445) (by decide +kernel) rfl), ?_⟩
  refine List.forall_mem_cons.mpr ⟨ze_slen (by decide +kernel), ?_⟩
  refine List.forall_mem_cons.mpr ⟨ze_aload_n (k := 0) (by decide +kernel) rfl, ?_⟩
  refine List.forall_mem_cons.mpr ⟨ze_getL (by decide +kernel) fl_X4_23 rfl (by decide), ?_⟩
  refine List.forall_mem_cons.mpr ⟨ze_aload_n (k := 0) (by decide +kernel) rfl, ?_⟩
  refine List.forall_mem_cons.mpr ⟨ze_getI (by decide +kernel) fl_X4_27 rfl, ?_⟩
  refine List.forall_mem_cons.mpr ⟨ze_callVF (idx := 66) (by decide +kernel) ml_X4_66 mv_X9_at rfl, ?_⟩
  refine List.forall_mem_cons.mpr ⟨ze_callSF (idx := 68) (by decide +kernel) ml_X4_68 ms_X4_placeOf, ?_⟩
  refine List.forall_mem_cons.mpr ⟨ze_istoreF_n (k := 3) (by decide +kernel) rfl (by decide), ?_⟩
  refine List.forall_mem_cons.mpr ⟨ze_iload_n (k := 3) (by decide +kernel) rfl, ?_⟩
  refine List.forall_mem_cons.mpr ⟨ze_iconst (n := -1) (by decide +kernel) (by decide), ?_⟩
  refine List.forall_mem_cons.mpr ⟨ze_icmp_eq (off := 40) (by decide +kernel) (by decide), ?_⟩
  refine List.forall_mem_cons.mpr ⟨ze_iload_n (k := 3) (by decide +kernel) rfl, ?_⟩
  refine List.forall_mem_cons.mpr ⟨ze_iconst (n := 3) (by decide +kernel) (by decide), ?_⟩
  refine List.forall_mem_cons.mpr ⟨ze_icmp_ne (off := 7) (by decide +kernel) (by decide), ?_⟩
  refine List.forall_mem_cons.mpr ⟨ze_iconst (n := 1) (by decide +kernel) (by decide), ?_⟩
  refine List.forall_mem_cons.mpr ⟨ze_goto (off := 4) (by decide +kernel) (by decide), ?_⟩
  refine List.forall_mem_cons.mpr ⟨ze_iconst (n := 0) (by decide +kernel) (by decide), ?_⟩
  refine List.forall_mem_cons.mpr ⟨ze_iload_n (k := 1) (by decide +kernel) rfl, ?_⟩
  refine List.forall_mem_cons.mpr ⟨ze_iconst (n := 2) (by decide +kernel) (by decide), ?_⟩
  refine List.forall_mem_cons.mpr ⟨ze_icmp_ne (off := 7) (by decide +kernel) (by decide), ?_⟩
  refine List.forall_mem_cons.mpr ⟨ze_iconst (n := 1) (by decide +kernel) (by decide), ?_⟩
  refine List.forall_mem_cons.mpr ⟨ze_goto (off := 4) (by decide +kernel) (by decide), ?_⟩
  refine List.forall_mem_cons.mpr ⟨ze_iconst (n := 0) (by decide +kernel) (by decide), ?_⟩
  refine List.forall_mem_cons.mpr ⟨ze_icmp_ne (off := 17) (by decide +kernel) (by decide), ?_⟩
  refine List.forall_mem_cons.mpr ⟨ze_aload_n (k := 0) (by decide +kernel) rfl, ?_⟩
  refine List.forall_mem_cons.mpr ⟨ze_getL (by decide +kernel) fl_X4_20 rfl (by decide), ?_⟩
  refine List.forall_mem_cons.mpr ⟨ze_iload_n (k := 3) (by decide +kernel) rfl, ?_⟩
  refine List.forall_mem_cons.mpr ⟨ze_iald (by decide +kernel), ?_⟩
  refine List.forall_mem_cons.mpr ⟨ze_gst (idx := 72) (by decide +kernel) (by decide) (gw (i := 447) (by decide +kernel) rfl), ?_⟩
  refine List.forall_mem_cons.mpr ⟨ze_iload_n (k := 3) (by decide +kernel) rfl, ?_⟩
  refine List.forall_mem_cons.mpr ⟨ze_siald (by decide +kernel), ?_⟩
  refine List.forall_mem_cons.mpr ⟨ze_icmp_lt (off := 8) (by decide +kernel) (by decide), ?_⟩
  refine List.forall_mem_cons.mpr ⟨ze_aload_n (k := 0) (by decide +kernel) rfl, ?_⟩
  refine List.forall_mem_cons.mpr ⟨ze_getI (by decide +kernel) fl_X4_27 rfl, ?_⟩
  refine List.forall_mem_cons.mpr ⟨ze_iret (by decide +kernel) rfl, ?_⟩
  refine List.forall_mem_cons.mpr ⟨ze_aload_n (k := 0) (by decide +kernel) rfl, ?_⟩
  refine List.forall_mem_cons.mpr ⟨ze_getL (by decide +kernel) fl_X4_20 rfl (by decide), ?_⟩
  refine List.forall_mem_cons.mpr ⟨ze_iload_n (k := 3) (by decide +kernel) rfl, ?_⟩
  refine List.forall_mem_cons.mpr ⟨ze_dup2 (by decide +kernel), ?_⟩
  refine List.forall_mem_cons.mpr ⟨ze_iald (by decide +kernel), ?_⟩
  refine List.forall_mem_cons.mpr ⟨ze_iconst (n := 1) (by decide +kernel) (by decide), ?_⟩
  refine List.forall_mem_cons.mpr ⟨ze_iadd (by decide +kernel), ?_⟩
  refine List.forall_mem_cons.mpr ⟨ze_iastoreF (by decide +kernel), ?_⟩
  refine List.forall_mem_cons.mpr ⟨ze_aload_n (k := 0) (by decide +kernel) rfl, ?_⟩
  refine List.forall_mem_cons.mpr ⟨ze_dup (by decide +kernel), ?_⟩
  refine List.forall_mem_cons.mpr ⟨ze_getI (by decide +kernel) fl_X4_27 rfl, ?_⟩
  refine List.forall_mem_cons.mpr ⟨ze_iconst (n := 1) (by decide +kernel) (by decide), ?_⟩
  refine List.forall_mem_cons.mpr ⟨ze_iadd (by decide +kernel), ?_⟩
  refine List.forall_mem_cons.mpr ⟨ze_putI (by decide +kernel) fl_X4_27 ⟨_, _, _, rfl, rfl, by decide +kernel⟩ rfl, ?_⟩
  refine List.forall_mem_cons.mpr ⟨ze_aload_n (k := 0) (by decide +kernel) rfl, ?_⟩
  refine List.forall_mem_cons.mpr ⟨ze_iload_n (k := 3) (by decide +kernel) rfl, ?_⟩
  refine List.forall_mem_cons.mpr ⟨ze_callVF (idx := 75) (by decide +kernel) ml_X4_75 mv_X4_readItems rfl, ?_⟩
  refine List.forall_mem_cons.mpr ⟨ze_istoreF (by decide +kernel) (by decide), ?_⟩
  refine List.forall_mem_cons.mpr ⟨ze_iload (by decide +kernel), ?_⟩
  refine List.forall_mem_cons.mpr ⟨ze_iconst (n := -1) (by decide +kernel) (by decide), ?_⟩
  refine List.forall_mem_cons.mpr ⟨ze_icmp_eq (off := 6) (by decide +kernel) (by decide), ?_⟩
  refine List.forall_mem_cons.mpr ⟨ze_iload (by decide +kernel), ?_⟩
  refine List.forall_mem_cons.mpr ⟨ze_iret (by decide +kernel) rfl, ?_⟩
  refine List.forall_mem_cons.mpr ⟨ze_aload_n (k := 0) (by decide +kernel) rfl, ?_⟩
  refine List.forall_mem_cons.mpr ⟨ze_getI (by decide +kernel) fl_X4_27 rfl, ?_⟩
  refine List.forall_mem_cons.mpr ⟨ze_aload_n (k := 0) (by decide +kernel) rfl, ?_⟩
  refine List.forall_mem_cons.mpr ⟨ze_getL (by decide +kernel) fl_X4_23 rfl (by decide), ?_⟩
  refine List.forall_mem_cons.mpr ⟨ze_getI (by decide +kernel) fl_X4_78 rfl, ?_⟩
  refine List.forall_mem_cons.mpr ⟨ze_icmp_lt (off := 5) (by decide +kernel) (by decide), ?_⟩
  refine List.forall_mem_cons.mpr ⟨ze_iconst (n := -1) (by decide +kernel) (by decide), ?_⟩
  refine List.forall_mem_cons.mpr ⟨ze_iret (by decide +kernel) rfl, ?_⟩
  refine List.forall_mem_cons.mpr ⟨ze_aload_n (k := 0) (by decide +kernel) rfl, ?_⟩
  refine List.forall_mem_cons.mpr ⟨ze_dup (by decide +kernel), ?_⟩
  refine List.forall_mem_cons.mpr ⟨ze_getI (by decide +kernel) fl_X4_27 rfl, ?_⟩
  refine List.forall_mem_cons.mpr ⟨ze_iconst (n := 1) (by decide +kernel) (by decide), ?_⟩
  refine List.forall_mem_cons.mpr ⟨ze_iadd (by decide +kernel), ?_⟩
  refine List.forall_mem_cons.mpr ⟨ze_putI (by decide +kernel) fl_X4_27 ⟨_, _, _, rfl, rfl, by decide +kernel⟩ rfl, ?_⟩
  refine List.forall_mem_cons.mpr ⟨ze_iincF (n := 1) (by decide +kernel) (by decide) (by decide), ?_⟩
  refine List.forall_mem_cons.mpr ⟨ze_goto (off := -146) (by decide +kernel) (by decide), ?_⟩
  refine List.forall_mem_cons.mpr ⟨ze_aload_n (k := 0) (by decide +kernel) rfl, ?_⟩
  refine List.forall_mem_cons.mpr ⟨ze_getI (by decide +kernel) fl_X4_27 rfl, ?_⟩
  refine List.forall_mem_cons.mpr ⟨ze_iret (by decide +kernel) rfl, ?_⟩
  exact fun _ h => absurd h List.not_mem_nil
theorem vX4_readClauses {l : Launch} {G : GT} {d : Nat} {av : List Value} {Q : Po} {σ : Mm} (cs : List (Nat × List Nat)) (k : Nat) (h : vc l G d mX4_readClauses TX4_readClauses Q cs k TX4_readClauses (lv_args 0 av) [] σ) (hlen : (lg_sl av).length ≤ mX4_readClauses.2.2.1 := by exact Nat.le_of_ble_eq_true rfl) : MW l G d mX4_readClauses av σ Q := mw_vc TX4_readClauses_ok mc_X4_readClauses rfl hlen cs k rfl h
theorem wX4_readClauses {l : Launch} {G : GT} {d : Nat} {Q : Po} {pc : Nat} {lv : Lv} {st : List Value} {σ : Mm} (cs : List (Nat × List Nat)) (k : Nat) (h : vc l G d mX4_readClauses TX4_readClauses Q cs k (drp TX4_readClauses pc) lv st σ) (hpc : hdp (drp TX4_readClauses pc) = pc := by rfl) : Wp l G d mX4_readClauses pc lv st σ Q := wp_vc TX4_readClauses_ok cs k hpc h
def TX4_readItems : List In := [(0, 1, zt_ic 0), (1, 2, zt_istoreF 2), (2, 5, zt_gst 202), (5, 6, zt_iload 1), (6, 7, zt_sld .int), (7, 8, zt_istoreF 3), (8, 9, zt_aload 0), (9, 10, zt_iload 1), (10, 13, zt_callVF mX4_startPart 1 13), (13, 15, zt_istoreF 4), (15, 16, zt_ic 0), (16, 18, zt_istoreF 5), (18, 20, zt_iload 5), (20, 23, zt_ic 320), (23, 26, zt_icmp_gt 199), (26, 27, zt_aload 0), (27, 30, zt_callVF mX4_skipBlanks 0 13), (30, 31, zt_aload 0), (31, 34, zt_getI 13 5), (34, 35, zt_aload 0), (35, 38, zt_getL 13 4), (38, 41, zt_getI 17 1), (41, 44, zt_icmp_ge 60), (44, 45, zt_aload 0), (45, 48, zt_getL 13 4), (48, 49, zt_aload 0), (49, 52, zt_getI 13 5), (52, 55, zt_callVF mX9_at 1 17), (55, 57, zt_ic 59), (57, 60, zt_icmp_ne 62), (60, 61, zt_ic (-1)), (61, 62, zt_iret), (62, 65, zt_gst 203), (65, 66, zt_iload 3), (66, 69, zt_gst 202), (69, 70, zt_iload 1), (70, 71, zt_ic 1), (71, 72, zt_iadd), (72, 73, zt_sld .int), (73, 74, zt_aload 0), (74, 77, zt_getL 13 4), (77, 78, zt_aload 0), (78, 81, zt_getI 13 5), (81, 84, zt_callVF mX9_at 1 17), (84, 87, zt_callSF mX4_placeOf 4), (87, 89, zt_istoreF 6), (89, 91, zt_iload 6), (91, 92, zt_ic (-1)), (92, 95, zt_icmp_eq 106), (95, 96, zt_iload 2), (96, 98, zt_iload 6), (98, 99, zt_iload 3), (99, 100, zt_isub), (100, 101, zt_ishr), (101, 102, zt_ic 1), (102, 103, zt_iand), (103, 106, zt_if_eq 111), (106, 107, zt_aload 0), (107, 110, zt_getI 13 5), (110, 111, zt_iret), (111, 112, zt_iload 2), (112, 113, zt_ic 1), (113, 115, zt_iload 6), (115, 116, zt_iload 3), (116, 117, zt_isub), (117, 118, zt_ishl), (118, 119, zt_ior), (119, 120, zt_istoreF 2), (120, 121, zt_aload 0), (121, 122, zt_dup), (122, 125, zt_getI 13 5), (125, 126, zt_ic 1), (126, 127, zt_iadd), (127, 130, zt_putI 13 5), (130, 131, zt_aload 0), (131, 134, zt_gst 204), (134, 136, zt_iload 6), (136, 137, zt_sld .int), (137, 140, zt_gst 205), (140, 142, zt_iload 6), (142, 143, zt_sld .int), (143, 146, zt_callVF mX4_readNumber 2 13), (146, 148, zt_istoreF 7), (148, 150, zt_iload 7), (150, 151, zt_ic (-1)), (151, 154, zt_icmp_eq 157), (154, 156, zt_iload 7), (156, 157, zt_iret), (157, 158, zt_iload 1), (158, 161, zt_if_ne 175), (161, 162, zt_aload 0), (162, 165, zt_getL 13 0), (165, 167, zt_iload 6), (167, 168, zt_aload 0), (168, 171, zt_getI 13 6), (171, 172, zt_iastoreF), (172, 175, zt_goto 193), (175, 176, zt_aload 0), (176, 179, zt_getL 13 1), (179, 181, zt_iload 4), (181, 182, zt_ic 1), (182, 183, zt_iadd), (183, 185, zt_iload 6), (185, 186, zt_iadd), (186, 187, zt_iload 3), (187, 188, zt_isub), (188, 189, zt_aload 0), (189, 192, zt_getI 13 6), (192, 193, zt_iastoreF), (193, 196, zt_iincF 5 1), (196, 199, zt_goto 18), (199, 200, zt_aload 0), (200, 203, zt_getI 13 5), (203, 204, zt_iret)]
theorem TX4_readItems_ok : ∀ i ∈ TX4_readItems, Ent mX4_readItems i := by
  refine List.forall_mem_cons.mpr ⟨ze_iconst (n := 0) (by decide +kernel) (by decide), ?_⟩
  refine List.forall_mem_cons.mpr ⟨ze_istoreF_n (k := 2) (by decide +kernel) rfl (by decide), ?_⟩
  refine List.forall_mem_cons.mpr ⟨ze_gst (idx := 81) (by decide +kernel) (by decide) (gw (i := 453) (by decide +kernel) rfl), ?_⟩
  refine List.forall_mem_cons.mpr ⟨ze_iload_n (k := 1) (by decide +kernel) rfl, ?_⟩
  refine List.forall_mem_cons.mpr ⟨ze_siald (by decide +kernel), ?_⟩
  refine List.forall_mem_cons.mpr ⟨ze_istoreF_n (k := 3) (by decide +kernel) rfl (by decide), ?_⟩
  refine List.forall_mem_cons.mpr ⟨ze_aload_n (k := 0) (by decide +kernel) rfl, ?_⟩
  refine List.forall_mem_cons.mpr ⟨ze_iload_n (k := 1) (by decide +kernel) rfl, ?_⟩
  refine List.forall_mem_cons.mpr ⟨ze_callVF (idx := 84) (by decide +kernel) ml_X4_84 mv_X4_startPart rfl, ?_⟩
  refine List.forall_mem_cons.mpr ⟨ze_istoreF (by decide +kernel) (by decide), ?_⟩
  refine List.forall_mem_cons.mpr ⟨ze_iconst (n := 0) (by decide +kernel) (by decide), ?_⟩
  refine List.forall_mem_cons.mpr ⟨ze_istoreF (by decide +kernel) (by decide), ?_⟩
  refine List.forall_mem_cons.mpr ⟨ze_iload (by decide +kernel), ?_⟩
  refine List.forall_mem_cons.mpr ⟨ze_sipush (n := 320) (by decide +kernel) (by decide), ?_⟩
  refine List.forall_mem_cons.mpr ⟨ze_icmp_gt (off := 176) (by decide +kernel) (by decide), ?_⟩
  refine List.forall_mem_cons.mpr ⟨ze_aload_n (k := 0) (by decide +kernel) rfl, ?_⟩
  refine List.forall_mem_cons.mpr ⟨ze_callVF (idx := 59) (by decide +kernel) ml_X4_59 mv_X4_skipBlanks rfl, ?_⟩
  refine List.forall_mem_cons.mpr ⟨ze_aload_n (k := 0) (by decide +kernel) rfl, ?_⟩
  refine List.forall_mem_cons.mpr ⟨ze_getI (by decide +kernel) fl_X4_27 rfl, ?_⟩
  refine List.forall_mem_cons.mpr ⟨ze_aload_n (k := 0) (by decide +kernel) rfl, ?_⟩
  refine List.forall_mem_cons.mpr ⟨ze_getL (by decide +kernel) fl_X4_23 rfl (by decide), ?_⟩
  refine List.forall_mem_cons.mpr ⟨ze_getI (by decide +kernel) fl_X4_78 rfl, ?_⟩
  refine List.forall_mem_cons.mpr ⟨ze_icmp_ge (off := 19) (by decide +kernel) (by decide), ?_⟩
  refine List.forall_mem_cons.mpr ⟨ze_aload_n (k := 0) (by decide +kernel) rfl, ?_⟩
  refine List.forall_mem_cons.mpr ⟨ze_getL (by decide +kernel) fl_X4_23 rfl (by decide), ?_⟩
  refine List.forall_mem_cons.mpr ⟨ze_aload_n (k := 0) (by decide +kernel) rfl, ?_⟩
  refine List.forall_mem_cons.mpr ⟨ze_getI (by decide +kernel) fl_X4_27 rfl, ?_⟩
  refine List.forall_mem_cons.mpr ⟨ze_callVF (idx := 66) (by decide +kernel) ml_X4_66 mv_X9_at rfl, ?_⟩
  refine List.forall_mem_cons.mpr ⟨ze_bipush (n := 59) (by decide +kernel) (by decide), ?_⟩
  refine List.forall_mem_cons.mpr ⟨ze_icmp_ne (off := 5) (by decide +kernel) (by decide), ?_⟩
  refine List.forall_mem_cons.mpr ⟨ze_iconst (n := -1) (by decide +kernel) (by decide), ?_⟩
  refine List.forall_mem_cons.mpr ⟨ze_iret (by decide +kernel) rfl, ?_⟩
  refine List.forall_mem_cons.mpr ⟨ze_gst (idx := 87) (by decide +kernel) (by decide) (gw (i := 459) (by decide +kernel) rfl), ?_⟩
  refine List.forall_mem_cons.mpr ⟨ze_iload_n (k := 3) (by decide +kernel) rfl, ?_⟩
  refine List.forall_mem_cons.mpr ⟨ze_gst (idx := 81) (by decide +kernel) (by decide) (gw (i := 453) (by decide +kernel) rfl), ?_⟩
  refine List.forall_mem_cons.mpr ⟨ze_iload_n (k := 1) (by decide +kernel) rfl, ?_⟩
  refine List.forall_mem_cons.mpr ⟨ze_iconst (n := 1) (by decide +kernel) (by decide), ?_⟩
  refine List.forall_mem_cons.mpr ⟨ze_iadd (by decide +kernel), ?_⟩
  refine List.forall_mem_cons.mpr ⟨ze_siald (by decide +kernel), ?_⟩
  refine List.forall_mem_cons.mpr ⟨ze_aload_n (k := 0) (by decide +kernel) rfl, ?_⟩
  refine List.forall_mem_cons.mpr ⟨ze_getL (by decide +kernel) fl_X4_23 rfl (by decide), ?_⟩
  refine List.forall_mem_cons.mpr ⟨ze_aload_n (k := 0) (by decide +kernel) rfl, ?_⟩
  refine List.forall_mem_cons.mpr ⟨ze_getI (by decide +kernel) fl_X4_27 rfl, ?_⟩
  refine List.forall_mem_cons.mpr ⟨ze_callVF (idx := 66) (by decide +kernel) ml_X4_66 mv_X9_at rfl, ?_⟩
  refine List.forall_mem_cons.mpr ⟨ze_callSF (idx := 68) (by decide +kernel) ml_X4_68 ms_X4_placeOf, ?_⟩
  refine List.forall_mem_cons.mpr ⟨ze_istoreF (by decide +kernel) (by decide), ?_⟩
  refine List.forall_mem_cons.mpr ⟨ze_iload (by decide +kernel), ?_⟩
  refine List.forall_mem_cons.mpr ⟨ze_iconst (n := -1) (by decide +kernel) (by decide), ?_⟩
  refine List.forall_mem_cons.mpr ⟨ze_icmp_eq (off := 14) (by decide +kernel) (by decide), ?_⟩
  refine List.forall_mem_cons.mpr ⟨ze_iload_n (k := 2) (by decide +kernel) rfl, ?_⟩
  refine List.forall_mem_cons.mpr ⟨ze_iload (by decide +kernel), ?_⟩
  refine List.forall_mem_cons.mpr ⟨ze_iload_n (k := 3) (by decide +kernel) rfl, ?_⟩
  refine List.forall_mem_cons.mpr ⟨ze_isub (by decide +kernel), ?_⟩
  refine List.forall_mem_cons.mpr ⟨ze_ishr (by decide +kernel), ?_⟩
  refine List.forall_mem_cons.mpr ⟨ze_iconst (n := 1) (by decide +kernel) (by decide), ?_⟩
  refine List.forall_mem_cons.mpr ⟨ze_iand (by decide +kernel), ?_⟩
  refine List.forall_mem_cons.mpr ⟨ze_if_eq (off := 8) (by decide +kernel) (by decide), ?_⟩
  refine List.forall_mem_cons.mpr ⟨ze_aload_n (k := 0) (by decide +kernel) rfl, ?_⟩
  refine List.forall_mem_cons.mpr ⟨ze_getI (by decide +kernel) fl_X4_27 rfl, ?_⟩
  refine List.forall_mem_cons.mpr ⟨ze_iret (by decide +kernel) rfl, ?_⟩
  refine List.forall_mem_cons.mpr ⟨ze_iload_n (k := 2) (by decide +kernel) rfl, ?_⟩
  refine List.forall_mem_cons.mpr ⟨ze_iconst (n := 1) (by decide +kernel) (by decide), ?_⟩
  refine List.forall_mem_cons.mpr ⟨ze_iload (by decide +kernel), ?_⟩
  refine List.forall_mem_cons.mpr ⟨ze_iload_n (k := 3) (by decide +kernel) rfl, ?_⟩
  refine List.forall_mem_cons.mpr ⟨ze_isub (by decide +kernel), ?_⟩
  refine List.forall_mem_cons.mpr ⟨ze_ishl (by decide +kernel), ?_⟩
  refine List.forall_mem_cons.mpr ⟨ze_ior (by decide +kernel), ?_⟩
  refine List.forall_mem_cons.mpr ⟨ze_istoreF_n (k := 2) (by decide +kernel) rfl (by decide), ?_⟩
  refine List.forall_mem_cons.mpr ⟨ze_aload_n (k := 0) (by decide +kernel) rfl, ?_⟩
  refine List.forall_mem_cons.mpr ⟨ze_dup (by decide +kernel), ?_⟩
  refine List.forall_mem_cons.mpr ⟨ze_getI (by decide +kernel) fl_X4_27 rfl, ?_⟩
  refine List.forall_mem_cons.mpr ⟨ze_iconst (n := 1) (by decide +kernel) (by decide), ?_⟩
  refine List.forall_mem_cons.mpr ⟨ze_iadd (by decide +kernel), ?_⟩
  refine List.forall_mem_cons.mpr ⟨ze_putI (by decide +kernel) fl_X4_27 ⟨_, _, _, rfl, rfl, by decide +kernel⟩ rfl, ?_⟩
  refine List.forall_mem_cons.mpr ⟨ze_aload_n (k := 0) (by decide +kernel) rfl, ?_⟩
  refine List.forall_mem_cons.mpr ⟨ze_gst (idx := 90) (by decide +kernel) (by decide) (gw (i := 461) (by decide +kernel) rfl), ?_⟩
  refine List.forall_mem_cons.mpr ⟨ze_iload (by decide +kernel), ?_⟩
  refine List.forall_mem_cons.mpr ⟨ze_siald (by decide +kernel), ?_⟩
  refine List.forall_mem_cons.mpr ⟨ze_gst (idx := 93) (by decide +kernel) (by decide) (gw (i := 463) (by decide +kernel) rfl), ?_⟩
  refine List.forall_mem_cons.mpr ⟨ze_iload (by decide +kernel), ?_⟩
  refine List.forall_mem_cons.mpr ⟨ze_siald (by decide +kernel), ?_⟩
  refine List.forall_mem_cons.mpr ⟨ze_callVF (idx := 96) (by decide +kernel) ml_X4_96 mv_X4_readNumber rfl, ?_⟩
  refine List.forall_mem_cons.mpr ⟨ze_istoreF (by decide +kernel) (by decide), ?_⟩
  refine List.forall_mem_cons.mpr ⟨ze_iload (by decide +kernel), ?_⟩
  refine List.forall_mem_cons.mpr ⟨ze_iconst (n := -1) (by decide +kernel) (by decide), ?_⟩
  refine List.forall_mem_cons.mpr ⟨ze_icmp_eq (off := 6) (by decide +kernel) (by decide), ?_⟩
  refine List.forall_mem_cons.mpr ⟨ze_iload (by decide +kernel), ?_⟩
  refine List.forall_mem_cons.mpr ⟨ze_iret (by decide +kernel) rfl, ?_⟩
  refine List.forall_mem_cons.mpr ⟨ze_iload_n (k := 1) (by decide +kernel) rfl, ?_⟩
  refine List.forall_mem_cons.mpr ⟨ze_if_ne (off := 17) (by decide +kernel) (by decide), ?_⟩
  refine List.forall_mem_cons.mpr ⟨ze_aload_n (k := 0) (by decide +kernel) rfl, ?_⟩
  refine List.forall_mem_cons.mpr ⟨ze_getL (by decide +kernel) fl_X4_11 rfl (by decide), ?_⟩
  refine List.forall_mem_cons.mpr ⟨ze_iload (by decide +kernel), ?_⟩
  refine List.forall_mem_cons.mpr ⟨ze_aload_n (k := 0) (by decide +kernel) rfl, ?_⟩
  refine List.forall_mem_cons.mpr ⟨ze_getI (by decide +kernel) fl_X4_100 rfl, ?_⟩
  refine List.forall_mem_cons.mpr ⟨ze_iastoreF (by decide +kernel), ?_⟩
  refine List.forall_mem_cons.mpr ⟨ze_goto (off := 21) (by decide +kernel) (by decide), ?_⟩
  refine List.forall_mem_cons.mpr ⟨ze_aload_n (k := 0) (by decide +kernel) rfl, ?_⟩
  refine List.forall_mem_cons.mpr ⟨ze_getL (by decide +kernel) fl_X4_17 rfl (by decide), ?_⟩
  refine List.forall_mem_cons.mpr ⟨ze_iload (by decide +kernel), ?_⟩
  refine List.forall_mem_cons.mpr ⟨ze_iconst (n := 1) (by decide +kernel) (by decide), ?_⟩
  refine List.forall_mem_cons.mpr ⟨ze_iadd (by decide +kernel), ?_⟩
  refine List.forall_mem_cons.mpr ⟨ze_iload (by decide +kernel), ?_⟩
  refine List.forall_mem_cons.mpr ⟨ze_iadd (by decide +kernel), ?_⟩
  refine List.forall_mem_cons.mpr ⟨ze_iload_n (k := 3) (by decide +kernel) rfl, ?_⟩
  refine List.forall_mem_cons.mpr ⟨ze_isub (by decide +kernel), ?_⟩
  refine List.forall_mem_cons.mpr ⟨ze_aload_n (k := 0) (by decide +kernel) rfl, ?_⟩
  refine List.forall_mem_cons.mpr ⟨ze_getI (by decide +kernel) fl_X4_100 rfl, ?_⟩
  refine List.forall_mem_cons.mpr ⟨ze_iastoreF (by decide +kernel), ?_⟩
  refine List.forall_mem_cons.mpr ⟨ze_iincF (n := 1) (by decide +kernel) (by decide) (by decide), ?_⟩
  refine List.forall_mem_cons.mpr ⟨ze_goto (off := -178) (by decide +kernel) (by decide), ?_⟩
  refine List.forall_mem_cons.mpr ⟨ze_aload_n (k := 0) (by decide +kernel) rfl, ?_⟩
  refine List.forall_mem_cons.mpr ⟨ze_getI (by decide +kernel) fl_X4_27 rfl, ?_⟩
  refine List.forall_mem_cons.mpr ⟨ze_iret (by decide +kernel) rfl, ?_⟩
  exact fun _ h => absurd h List.not_mem_nil
theorem vX4_readItems {l : Launch} {G : GT} {d : Nat} {av : List Value} {Q : Po} {σ : Mm} (cs : List (Nat × List Nat)) (k : Nat) (h : vc l G d mX4_readItems TX4_readItems Q cs k TX4_readItems (lv_args 0 av) [] σ) (hlen : (lg_sl av).length ≤ mX4_readItems.2.2.1 := by exact Nat.le_of_ble_eq_true rfl) : MW l G d mX4_readItems av σ Q := mw_vc TX4_readItems_ok mc_X4_readItems rfl hlen cs k rfl h
theorem wX4_readItems {l : Launch} {G : GT} {d : Nat} {Q : Po} {pc : Nat} {lv : Lv} {st : List Value} {σ : Mm} (cs : List (Nat × List Nat)) (k : Nat) (h : vc l G d mX4_readItems TX4_readItems Q cs k (drp TX4_readItems pc) lv st σ) (hpc : hdp (drp TX4_readItems pc) = pc := by rfl) : Wp l G d mX4_readItems pc lv st σ Q := wp_vc TX4_readItems_ok cs k hpc h
def TX4_startPart : List In := [(0, 1, zt_iload 1), (1, 4, zt_if_eq 13), (4, 5, zt_aload 0), (5, 8, zt_getI 13 2), (8, 10, zt_ic 28), (10, 13, zt_icmp_lt 15), (13, 14, zt_ic 0), (14, 15, zt_iret), (15, 16, zt_aload 0), (16, 19, zt_getI 13 2), (19, 20, zt_ic 4), (20, 21, zt_imul), (21, 22, zt_istoreF 2), (22, 23, zt_aload 0), (23, 24, zt_dup), (24, 27, zt_getI 13 2), (27, 28, zt_ic 1), (28, 29, zt_iadd), (29, 32, zt_putI 13 2), (32, 33, zt_aload 0), (33, 36, zt_getL 13 1), (36, 37, zt_iload 2), (37, 38, zt_iload 2), (38, 39, zt_ic 4), (39, 40, zt_iadd), (40, 41, zt_ic (-1)), (41, 44, zt_callSF mJ7_fill_fda19 4), (44, 45, zt_aload 0), (45, 48, zt_getL 13 1), (48, 49, zt_iload 2), (49, 50, zt_iload 1), (50, 51, zt_iastoreF), (51, 54, zt_gst 202), (54, 55, zt_iload 1), (55, 56, zt_sld .int), (56, 57, zt_istoreF 3), (57, 58, zt_iload 3), (58, 61, zt_gst 202), (61, 62, zt_iload 1), (62, 63, zt_ic 1), (63, 64, zt_iadd), (64, 65, zt_sld .int), (65, 68, zt_icmp_ge 95), (68, 69, zt_aload 0), (69, 72, zt_getL 13 1), (72, 73, zt_iload 2), (73, 74, zt_ic 1), (74, 75, zt_iadd), (75, 76, zt_iload 3), (76, 77, zt_iadd), (77, 80, zt_gst 202), (80, 81, zt_iload 1), (81, 82, zt_sld .int), (82, 83, zt_isub), (83, 86, zt_gst 206), (86, 87, zt_iload 3), (87, 88, zt_sld .int), (88, 89, zt_iastoreF), (89, 92, zt_iincF 3 1), (92, 95, zt_goto 57), (95, 96, zt_iload 2), (96, 97, zt_iret)]
theorem TX4_startPart_ok : ∀ i ∈ TX4_startPart, Ent mX4_startPart i := by
  refine List.forall_mem_cons.mpr ⟨ze_iload_n (k := 1) (by decide +kernel) rfl, ?_⟩
  refine List.forall_mem_cons.mpr ⟨ze_if_eq (off := 12) (by decide +kernel) (by decide), ?_⟩
  refine List.forall_mem_cons.mpr ⟨ze_aload_n (k := 0) (by decide +kernel) rfl, ?_⟩
  refine List.forall_mem_cons.mpr ⟨ze_getI (by decide +kernel) fl_X4_31 rfl, ?_⟩
  refine List.forall_mem_cons.mpr ⟨ze_bipush (n := 28) (by decide +kernel) (by decide), ?_⟩
  refine List.forall_mem_cons.mpr ⟨ze_icmp_lt (off := 5) (by decide +kernel) (by decide), ?_⟩
  refine List.forall_mem_cons.mpr ⟨ze_iconst (n := 0) (by decide +kernel) (by decide), ?_⟩
  refine List.forall_mem_cons.mpr ⟨ze_iret (by decide +kernel) rfl, ?_⟩
  refine List.forall_mem_cons.mpr ⟨ze_aload_n (k := 0) (by decide +kernel) rfl, ?_⟩
  refine List.forall_mem_cons.mpr ⟨ze_getI (by decide +kernel) fl_X4_31 rfl, ?_⟩
  refine List.forall_mem_cons.mpr ⟨ze_iconst (n := 4) (by decide +kernel) (by decide), ?_⟩
  refine List.forall_mem_cons.mpr ⟨ze_imul (by decide +kernel), ?_⟩
  refine List.forall_mem_cons.mpr ⟨ze_istoreF_n (k := 2) (by decide +kernel) rfl (by decide), ?_⟩
  refine List.forall_mem_cons.mpr ⟨ze_aload_n (k := 0) (by decide +kernel) rfl, ?_⟩
  refine List.forall_mem_cons.mpr ⟨ze_dup (by decide +kernel), ?_⟩
  refine List.forall_mem_cons.mpr ⟨ze_getI (by decide +kernel) fl_X4_31 rfl, ?_⟩
  refine List.forall_mem_cons.mpr ⟨ze_iconst (n := 1) (by decide +kernel) (by decide), ?_⟩
  refine List.forall_mem_cons.mpr ⟨ze_iadd (by decide +kernel), ?_⟩
  refine List.forall_mem_cons.mpr ⟨ze_putI (by decide +kernel) fl_X4_31 ⟨_, _, _, rfl, rfl, by decide +kernel⟩ rfl, ?_⟩
  refine List.forall_mem_cons.mpr ⟨ze_aload_n (k := 0) (by decide +kernel) rfl, ?_⟩
  refine List.forall_mem_cons.mpr ⟨ze_getL (by decide +kernel) fl_X4_17 rfl (by decide), ?_⟩
  refine List.forall_mem_cons.mpr ⟨ze_iload_n (k := 2) (by decide +kernel) rfl, ?_⟩
  refine List.forall_mem_cons.mpr ⟨ze_iload_n (k := 2) (by decide +kernel) rfl, ?_⟩
  refine List.forall_mem_cons.mpr ⟨ze_iconst (n := 4) (by decide +kernel) (by decide), ?_⟩
  refine List.forall_mem_cons.mpr ⟨ze_iadd (by decide +kernel), ?_⟩
  refine List.forall_mem_cons.mpr ⟨ze_iconst (n := -1) (by decide +kernel) (by decide), ?_⟩
  refine List.forall_mem_cons.mpr ⟨ze_callSF (idx := 103) (by decide +kernel) ml_X4_103 ms_J7_fill_fda19, ?_⟩
  refine List.forall_mem_cons.mpr ⟨ze_aload_n (k := 0) (by decide +kernel) rfl, ?_⟩
  refine List.forall_mem_cons.mpr ⟨ze_getL (by decide +kernel) fl_X4_17 rfl (by decide), ?_⟩
  refine List.forall_mem_cons.mpr ⟨ze_iload_n (k := 2) (by decide +kernel) rfl, ?_⟩
  refine List.forall_mem_cons.mpr ⟨ze_iload_n (k := 1) (by decide +kernel) rfl, ?_⟩
  refine List.forall_mem_cons.mpr ⟨ze_iastoreF (by decide +kernel), ?_⟩
  refine List.forall_mem_cons.mpr ⟨ze_gst (idx := 81) (by decide +kernel) (by decide) (gw (i := 453) (by decide +kernel) rfl), ?_⟩
  refine List.forall_mem_cons.mpr ⟨ze_iload_n (k := 1) (by decide +kernel) rfl, ?_⟩
  refine List.forall_mem_cons.mpr ⟨ze_siald (by decide +kernel), ?_⟩
  refine List.forall_mem_cons.mpr ⟨ze_istoreF_n (k := 3) (by decide +kernel) rfl (by decide), ?_⟩
  refine List.forall_mem_cons.mpr ⟨ze_iload_n (k := 3) (by decide +kernel) rfl, ?_⟩
  refine List.forall_mem_cons.mpr ⟨ze_gst (idx := 81) (by decide +kernel) (by decide) (gw (i := 453) (by decide +kernel) rfl), ?_⟩
  refine List.forall_mem_cons.mpr ⟨ze_iload_n (k := 1) (by decide +kernel) rfl, ?_⟩
  refine List.forall_mem_cons.mpr ⟨ze_iconst (n := 1) (by decide +kernel) (by decide), ?_⟩
  refine List.forall_mem_cons.mpr ⟨ze_iadd (by decide +kernel), ?_⟩
  refine List.forall_mem_cons.mpr ⟨ze_siald (by decide +kernel), ?_⟩
  refine List.forall_mem_cons.mpr ⟨ze_icmp_ge (off := 30) (by decide +kernel) (by decide), ?_⟩
  refine List.forall_mem_cons.mpr ⟨ze_aload_n (k := 0) (by decide +kernel) rfl, ?_⟩
  refine List.forall_mem_cons.mpr ⟨ze_getL (by decide +kernel) fl_X4_17 rfl (by decide), ?_⟩
  refine List.forall_mem_cons.mpr ⟨ze_iload_n (k := 2) (by decide +kernel) rfl, ?_⟩
  refine List.forall_mem_cons.mpr ⟨ze_iconst (n := 1) (by decide +kernel) (by decide), ?_⟩
  refine List.forall_mem_cons.mpr ⟨ze_iadd (by decide +kernel), ?_⟩
  refine List.forall_mem_cons.mpr ⟨ze_iload_n (k := 3) (by decide +kernel) rfl, ?_⟩
  refine List.forall_mem_cons.mpr ⟨ze_iadd (by decide +kernel), ?_⟩
  refine List.forall_mem_cons.mpr ⟨ze_gst (idx := 81) (by decide +kernel) (by decide) (gw (i := 453) (by decide +kernel) rfl), ?_⟩
  refine List.forall_mem_cons.mpr ⟨ze_iload_n (k := 1) (by decide +kernel) rfl, ?_⟩
  refine List.forall_mem_cons.mpr ⟨ze_siald (by decide +kernel), ?_⟩
  refine List.forall_mem_cons.mpr ⟨ze_isub (by decide +kernel), ?_⟩
  refine List.forall_mem_cons.mpr ⟨ze_gst (idx := 40) (by decide +kernel) (by decide) (gw (i := 402) (by decide +kernel) rfl), ?_⟩
  refine List.forall_mem_cons.mpr ⟨ze_iload_n (k := 3) (by decide +kernel) rfl, ?_⟩
  refine List.forall_mem_cons.mpr ⟨ze_siald (by decide +kernel), ?_⟩
  refine List.forall_mem_cons.mpr ⟨ze_iastoreF (by decide +kernel), ?_⟩
  refine List.forall_mem_cons.mpr ⟨ze_iincF (n := 1) (by decide +kernel) (by decide) (by decide), ?_⟩
  refine List.forall_mem_cons.mpr ⟨ze_goto (off := -35) (by decide +kernel) (by decide), ?_⟩
  refine List.forall_mem_cons.mpr ⟨ze_iload_n (k := 2) (by decide +kernel) rfl, ?_⟩
  refine List.forall_mem_cons.mpr ⟨ze_iret (by decide +kernel) rfl, ?_⟩
  exact fun _ h => absurd h List.not_mem_nil
theorem vX4_startPart {l : Launch} {G : GT} {d : Nat} {av : List Value} {Q : Po} {σ : Mm} (cs : List (Nat × List Nat)) (k : Nat) (h : vc l G d mX4_startPart TX4_startPart Q cs k TX4_startPart (lv_args 0 av) [] σ) (hlen : (lg_sl av).length ≤ mX4_startPart.2.2.1 := by exact Nat.le_of_ble_eq_true rfl) : MW l G d mX4_startPart av σ Q := mw_vc TX4_startPart_ok mc_X4_startPart rfl hlen cs k rfl h
theorem wX4_startPart {l : Launch} {G : GT} {d : Nat} {Q : Po} {pc : Nat} {lv : Lv} {st : List Value} {σ : Mm} (cs : List (Nat × List Nat)) (k : Nat) (h : vc l G d mX4_startPart TX4_startPart Q cs k (drp TX4_startPart pc) lv st σ) (hpc : hdp (drp TX4_startPart pc) = pc := by rfl) : Wp l G d mX4_startPart pc lv st σ Q := wp_vc TX4_startPart_ok cs k hpc h
def TX4_readSteps : List In := [(0, 1, zt_ic 0), (1, 2, zt_istoreF 1), (2, 3, zt_iload 1), (3, 5, zt_ic 16), (5, 8, zt_icmp_ge 134), (8, 9, zt_aload 0), (9, 12, zt_callVF mX4_skipBlanks 0 13), (12, 15, zt_gst 207), (15, 16, zt_ic 0), (16, 19, zt_gst 207), (19, 20, zt_slen), (20, 21, zt_aload 0), (21, 24, zt_getL 13 4), (24, 25, zt_aload 0), (25, 28, zt_getI 13 5), (28, 31, zt_callVF mX9_at 1 17), (31, 34, zt_callSF mX4_placeOf 4), (34, 35, zt_istoreF 2), (35, 36, zt_iload 2), (36, 37, zt_ic (-1)), (37, 40, zt_icmp_ne 45), (40, 41, zt_aload 0), (41, 44, zt_getI 13 5), (44, 45, zt_iret), (45, 46, zt_aload 0), (46, 47, zt_dup), (47, 50, zt_getI 13 5), (50, 51, zt_ic 1), (51, 52, zt_iadd), (52, 55, zt_putI 13 5), (55, 56, zt_aload 0), (56, 57, zt_iload 2), (57, 60, zt_callVF mX4_readStepNumbers 1 13), (60, 61, zt_istoreF 3), (61, 62, zt_iload 3), (62, 63, zt_ic (-1)), (63, 66, zt_icmp_eq 68), (66, 67, zt_iload 3), (67, 68, zt_iret), (68, 69, zt_aload 0), (69, 72, zt_callVF mX4_skipBlanks 0 13), (72, 73, zt_aload 0), (73, 76, zt_getI 13 5), (76, 77, zt_aload 0), (77, 80, zt_getL 13 4), (80, 83, zt_getI 17 1), (83, 86, zt_icmp_lt 88), (86, 87, zt_ic (-1)), (87, 88, zt_iret), (88, 89, zt_aload 0), (89, 92, zt_getL 13 4), (92, 93, zt_aload 0), (93, 96, zt_getI 13 5), (96, 99, zt_callVF mX9_at 1 17), (99, 101, zt_ic 59), (101, 104, zt_icmp_ne 113), (104, 105, zt_aload 0), (105, 108, zt_getI 13 2), (108, 110, zt_ic 16), (110, 113, zt_icmp_lt 118), (113, 114, zt_aload 0), (114, 117, zt_getI 13 5), (117, 118, zt_iret), (118, 119, zt_aload 0), (119, 120, zt_dup), (120, 123, zt_getI 13 5), (123, 124, zt_ic 1), (124, 125, zt_iadd), (125, 128, zt_putI 13 5), (128, 131, zt_iincF 1 1), (131, 134, zt_goto 2), (134, 135, zt_aload 0), (135, 138, zt_getI 13 5), (138, 139, zt_iret)]
theorem TX4_readSteps_ok : ∀ i ∈ TX4_readSteps, Ent mX4_readSteps i := by
  refine List.forall_mem_cons.mpr ⟨ze_iconst (n := 0) (by decide +kernel) (by decide), ?_⟩
  refine List.forall_mem_cons.mpr ⟨ze_istoreF_n (k := 1) (by decide +kernel) rfl (by decide), ?_⟩
  refine List.forall_mem_cons.mpr ⟨ze_iload_n (k := 1) (by decide +kernel) rfl, ?_⟩
  refine List.forall_mem_cons.mpr ⟨ze_bipush (n := 16) (by decide +kernel) (by decide), ?_⟩
  refine List.forall_mem_cons.mpr ⟨ze_icmp_ge (off := 129) (by decide +kernel) (by decide), ?_⟩
  refine List.forall_mem_cons.mpr ⟨ze_aload_n (k := 0) (by decide +kernel) rfl, ?_⟩
  refine List.forall_mem_cons.mpr ⟨ze_callVF (idx := 59) (by decide +kernel) ml_X4_59 mv_X4_skipBlanks rfl, ?_⟩
  refine List.forall_mem_cons.mpr ⟨ze_gst (idx := 108) (by decide +kernel) (by decide) (gw (i := 419) (by decide +kernel) rfl), ?_⟩
  refine List.forall_mem_cons.mpr ⟨ze_iconst (n := 0) (by decide +kernel) (by decide), ?_⟩
  refine List.forall_mem_cons.mpr ⟨ze_gst (idx := 108) (by decide +kernel) (by decide) (gw (i := 419) (by decide +kernel) rfl), ?_⟩
  refine List.forall_mem_cons.mpr ⟨ze_slen (by decide +kernel), ?_⟩
  refine List.forall_mem_cons.mpr ⟨ze_aload_n (k := 0) (by decide +kernel) rfl, ?_⟩
  refine List.forall_mem_cons.mpr ⟨ze_getL (by decide +kernel) fl_X4_23 rfl (by decide), ?_⟩
  refine List.forall_mem_cons.mpr ⟨ze_aload_n (k := 0) (by decide +kernel) rfl, ?_⟩
  refine List.forall_mem_cons.mpr ⟨ze_getI (by decide +kernel) fl_X4_27 rfl, ?_⟩
  refine List.forall_mem_cons.mpr ⟨ze_callVF (idx := 66) (by decide +kernel) ml_X4_66 mv_X9_at rfl, ?_⟩
  refine List.forall_mem_cons.mpr ⟨ze_callSF (idx := 68) (by decide +kernel) ml_X4_68 ms_X4_placeOf, ?_⟩
  refine List.forall_mem_cons.mpr ⟨ze_istoreF_n (k := 2) (by decide +kernel) rfl (by decide), ?_⟩
  refine List.forall_mem_cons.mpr ⟨ze_iload_n (k := 2) (by decide +kernel) rfl, ?_⟩
  refine List.forall_mem_cons.mpr ⟨ze_iconst (n := -1) (by decide +kernel) (by decide), ?_⟩
  refine List.forall_mem_cons.mpr ⟨ze_icmp_ne (off := 8) (by decide +kernel) (by decide), ?_⟩
  refine List.forall_mem_cons.mpr ⟨ze_aload_n (k := 0) (by decide +kernel) rfl, ?_⟩
  refine List.forall_mem_cons.mpr ⟨ze_getI (by decide +kernel) fl_X4_27 rfl, ?_⟩
  refine List.forall_mem_cons.mpr ⟨ze_iret (by decide +kernel) rfl, ?_⟩
  refine List.forall_mem_cons.mpr ⟨ze_aload_n (k := 0) (by decide +kernel) rfl, ?_⟩
  refine List.forall_mem_cons.mpr ⟨ze_dup (by decide +kernel), ?_⟩
  refine List.forall_mem_cons.mpr ⟨ze_getI (by decide +kernel) fl_X4_27 rfl, ?_⟩
  refine List.forall_mem_cons.mpr ⟨ze_iconst (n := 1) (by decide +kernel) (by decide), ?_⟩
  refine List.forall_mem_cons.mpr ⟨ze_iadd (by decide +kernel), ?_⟩
  refine List.forall_mem_cons.mpr ⟨ze_putI (by decide +kernel) fl_X4_27 ⟨_, _, _, rfl, rfl, by decide +kernel⟩ rfl, ?_⟩
  refine List.forall_mem_cons.mpr ⟨ze_aload_n (k := 0) (by decide +kernel) rfl, ?_⟩
  refine List.forall_mem_cons.mpr ⟨ze_iload_n (k := 2) (by decide +kernel) rfl, ?_⟩
  refine List.forall_mem_cons.mpr ⟨ze_callVF (idx := 111) (by decide +kernel) ml_X4_111 mv_X4_readStepNumbers rfl, ?_⟩
  refine List.forall_mem_cons.mpr ⟨ze_istoreF_n (k := 3) (by decide +kernel) rfl (by decide), ?_⟩
  refine List.forall_mem_cons.mpr ⟨ze_iload_n (k := 3) (by decide +kernel) rfl, ?_⟩
  refine List.forall_mem_cons.mpr ⟨ze_iconst (n := -1) (by decide +kernel) (by decide), ?_⟩
  refine List.forall_mem_cons.mpr ⟨ze_icmp_eq (off := 5) (by decide +kernel) (by decide), ?_⟩
  refine List.forall_mem_cons.mpr ⟨ze_iload_n (k := 3) (by decide +kernel) rfl, ?_⟩
  refine List.forall_mem_cons.mpr ⟨ze_iret (by decide +kernel) rfl, ?_⟩
  refine List.forall_mem_cons.mpr ⟨ze_aload_n (k := 0) (by decide +kernel) rfl, ?_⟩
  refine List.forall_mem_cons.mpr ⟨ze_callVF (idx := 59) (by decide +kernel) ml_X4_59 mv_X4_skipBlanks rfl, ?_⟩
  refine List.forall_mem_cons.mpr ⟨ze_aload_n (k := 0) (by decide +kernel) rfl, ?_⟩
  refine List.forall_mem_cons.mpr ⟨ze_getI (by decide +kernel) fl_X4_27 rfl, ?_⟩
  refine List.forall_mem_cons.mpr ⟨ze_aload_n (k := 0) (by decide +kernel) rfl, ?_⟩
  refine List.forall_mem_cons.mpr ⟨ze_getL (by decide +kernel) fl_X4_23 rfl (by decide), ?_⟩
  refine List.forall_mem_cons.mpr ⟨ze_getI (by decide +kernel) fl_X4_78 rfl, ?_⟩
  refine List.forall_mem_cons.mpr ⟨ze_icmp_lt (off := 5) (by decide +kernel) (by decide), ?_⟩
  refine List.forall_mem_cons.mpr ⟨ze_iconst (n := -1) (by decide +kernel) (by decide), ?_⟩
  refine List.forall_mem_cons.mpr ⟨ze_iret (by decide +kernel) rfl, ?_⟩
  refine List.forall_mem_cons.mpr ⟨ze_aload_n (k := 0) (by decide +kernel) rfl, ?_⟩
  refine List.forall_mem_cons.mpr ⟨ze_getL (by decide +kernel) fl_X4_23 rfl (by decide), ?_⟩
  refine List.forall_mem_cons.mpr ⟨ze_aload_n (k := 0) (by decide +kernel) rfl, ?_⟩
  refine List.forall_mem_cons.mpr ⟨ze_getI (by decide +kernel) fl_X4_27 rfl, ?_⟩
  refine List.forall_mem_cons.mpr ⟨ze_callVF (idx := 66) (by decide +kernel) ml_X4_66 mv_X9_at rfl, ?_⟩
  refine List.forall_mem_cons.mpr ⟨ze_bipush (n := 59) (by decide +kernel) (by decide), ?_⟩
  refine List.forall_mem_cons.mpr ⟨ze_icmp_ne (off := 12) (by decide +kernel) (by decide), ?_⟩
  refine List.forall_mem_cons.mpr ⟨ze_aload_n (k := 0) (by decide +kernel) rfl, ?_⟩
  refine List.forall_mem_cons.mpr ⟨ze_getI (by decide +kernel) fl_X4_31 rfl, ?_⟩
  refine List.forall_mem_cons.mpr ⟨ze_bipush (n := 16) (by decide +kernel) (by decide), ?_⟩
  refine List.forall_mem_cons.mpr ⟨ze_icmp_lt (off := 8) (by decide +kernel) (by decide), ?_⟩
  refine List.forall_mem_cons.mpr ⟨ze_aload_n (k := 0) (by decide +kernel) rfl, ?_⟩
  refine List.forall_mem_cons.mpr ⟨ze_getI (by decide +kernel) fl_X4_27 rfl, ?_⟩
  refine List.forall_mem_cons.mpr ⟨ze_iret (by decide +kernel) rfl, ?_⟩
  refine List.forall_mem_cons.mpr ⟨ze_aload_n (k := 0) (by decide +kernel) rfl, ?_⟩
  refine List.forall_mem_cons.mpr ⟨ze_dup (by decide +kernel), ?_⟩
  refine List.forall_mem_cons.mpr ⟨ze_getI (by decide +kernel) fl_X4_27 rfl, ?_⟩
  refine List.forall_mem_cons.mpr ⟨ze_iconst (n := 1) (by decide +kernel) (by decide), ?_⟩
  refine List.forall_mem_cons.mpr ⟨ze_iadd (by decide +kernel), ?_⟩
  refine List.forall_mem_cons.mpr ⟨ze_putI (by decide +kernel) fl_X4_27 ⟨_, _, _, rfl, rfl, by decide +kernel⟩ rfl, ?_⟩
  refine List.forall_mem_cons.mpr ⟨ze_iincF (n := 1) (by decide +kernel) (by decide) (by decide), ?_⟩
  refine List.forall_mem_cons.mpr ⟨ze_goto (off := -129) (by decide +kernel) (by decide), ?_⟩
  refine List.forall_mem_cons.mpr ⟨ze_aload_n (k := 0) (by decide +kernel) rfl, ?_⟩
  refine List.forall_mem_cons.mpr ⟨ze_getI (by decide +kernel) fl_X4_27 rfl, ?_⟩
  refine List.forall_mem_cons.mpr ⟨ze_iret (by decide +kernel) rfl, ?_⟩
  exact fun _ h => absurd h List.not_mem_nil
theorem vX4_readSteps {l : Launch} {G : GT} {d : Nat} {av : List Value} {Q : Po} {σ : Mm} (cs : List (Nat × List Nat)) (k : Nat) (h : vc l G d mX4_readSteps TX4_readSteps Q cs k TX4_readSteps (lv_args 0 av) [] σ) (hlen : (lg_sl av).length ≤ mX4_readSteps.2.2.1 := by exact Nat.le_of_ble_eq_true rfl) : MW l G d mX4_readSteps av σ Q := mw_vc TX4_readSteps_ok mc_X4_readSteps rfl hlen cs k rfl h
theorem wX4_readSteps {l : Launch} {G : GT} {d : Nat} {Q : Po} {pc : Nat} {lv : Lv} {st : List Value} {σ : Mm} (cs : List (Nat × List Nat)) (k : Nat) (h : vc l G d mX4_readSteps TX4_readSteps Q cs k (drp TX4_readSteps pc) lv st σ) (hpc : hdp (drp TX4_readSteps pc) = pc := by rfl) : Wp l G d mX4_readSteps pc lv st σ Q := wp_vc TX4_readSteps_ok cs k hpc h
def TX4_readStepNumbers : List In := [(0, 1, zt_aload 0), (1, 4, zt_getI 13 2), (4, 5, zt_ic 4), (5, 6, zt_imul), (6, 7, zt_istoreF 2), (7, 8, zt_aload 0), (8, 9, zt_dup), (9, 12, zt_getI 13 2), (12, 13, zt_ic 1), (13, 14, zt_iadd), (14, 17, zt_putI 13 2), (17, 18, zt_aload 0), (18, 21, zt_getL 13 1), (21, 22, zt_iload 2), (22, 23, zt_iload 2), (23, 24, zt_ic 4), (24, 25, zt_iadd), (25, 26, zt_ic (-1)), (26, 29, zt_callSF mJ7_fill_fda19 4), (29, 30, zt_aload 0), (30, 33, zt_getL 13 1), (33, 34, zt_iload 2), (34, 35, zt_iload 1), (35, 36, zt_iastoreF), (36, 37, zt_iload 1), (37, 38, zt_ic 5), (38, 41, zt_icmp_ne 45), (41, 42, zt_ic 2), (42, 45, zt_goto 56), (45, 46, zt_iload 1), (46, 48, zt_ic 6), (48, 51, zt_icmp_ne 55), (51, 52, zt_ic 3), (52, 55, zt_goto 56), (55, 56, zt_ic 0), (56, 57, zt_istoreF 3), (57, 58, zt_ic 1), (58, 60, zt_istoreF 4), (60, 62, zt_iload 4), (62, 63, zt_iload 3), (63, 66, zt_icmp_gt 145), (66, 68, zt_iload 4), (68, 69, zt_ic 1), (69, 72, zt_icmp_le 107), (72, 73, zt_aload 0), (73, 76, zt_callVF mX4_skipBlanks 0 13), (76, 77, zt_aload 0), (77, 80, zt_getL 13 4), (80, 81, zt_aload 0), (81, 84, zt_getI 13 5), (84, 87, zt_callVF mX9_at 1 17), (87, 89, zt_ic 44), (89, 92, zt_icmp_eq 97), (92, 93, zt_aload 0), (93, 96, zt_getI 13 5), (96, 97, zt_iret), (97, 98, zt_aload 0), (98, 99, zt_dup), (99, 102, zt_getI 13 5), (102, 103, zt_ic 1), (103, 104, zt_iadd), (104, 107, zt_putI 13 5), (107, 108, zt_aload 0), (108, 109, zt_ic 0), (109, 112, zt_ic 9999), (112, 115, zt_callVF mX4_readNumber 2 13), (115, 117, zt_istoreF 5), (117, 119, zt_iload 5), (119, 120, zt_ic (-1)), (120, 123, zt_icmp_eq 126), (123, 125, zt_iload 5), (125, 126, zt_iret), (126, 127, zt_aload 0), (127, 130, zt_getL 13 1), (130, 131, zt_iload 2), (131, 133, zt_iload 4), (133, 134, zt_iadd), (134, 135, zt_aload 0), (135, 138, zt_getI 13 6), (138, 139, zt_iastoreF), (139, 142, zt_iincF 4 1), (142, 145, zt_goto 60), (145, 146, zt_ic (-1)), (146, 147, zt_iret)]
theorem TX4_readStepNumbers_ok : ∀ i ∈ TX4_readStepNumbers, Ent mX4_readStepNumbers i := by
  refine List.forall_mem_cons.mpr ⟨ze_aload_n (k := 0) (by decide +kernel) rfl, ?_⟩
  refine List.forall_mem_cons.mpr ⟨ze_getI (by decide +kernel) fl_X4_31 rfl, ?_⟩
  refine List.forall_mem_cons.mpr ⟨ze_iconst (n := 4) (by decide +kernel) (by decide), ?_⟩
  refine List.forall_mem_cons.mpr ⟨ze_imul (by decide +kernel), ?_⟩
  refine List.forall_mem_cons.mpr ⟨ze_istoreF_n (k := 2) (by decide +kernel) rfl (by decide), ?_⟩
  refine List.forall_mem_cons.mpr ⟨ze_aload_n (k := 0) (by decide +kernel) rfl, ?_⟩
  refine List.forall_mem_cons.mpr ⟨ze_dup (by decide +kernel), ?_⟩
  refine List.forall_mem_cons.mpr ⟨ze_getI (by decide +kernel) fl_X4_31 rfl, ?_⟩
  refine List.forall_mem_cons.mpr ⟨ze_iconst (n := 1) (by decide +kernel) (by decide), ?_⟩
  refine List.forall_mem_cons.mpr ⟨ze_iadd (by decide +kernel), ?_⟩
  refine List.forall_mem_cons.mpr ⟨ze_putI (by decide +kernel) fl_X4_31 ⟨_, _, _, rfl, rfl, by decide +kernel⟩ rfl, ?_⟩
  refine List.forall_mem_cons.mpr ⟨ze_aload_n (k := 0) (by decide +kernel) rfl, ?_⟩
  refine List.forall_mem_cons.mpr ⟨ze_getL (by decide +kernel) fl_X4_17 rfl (by decide), ?_⟩
  refine List.forall_mem_cons.mpr ⟨ze_iload_n (k := 2) (by decide +kernel) rfl, ?_⟩
  refine List.forall_mem_cons.mpr ⟨ze_iload_n (k := 2) (by decide +kernel) rfl, ?_⟩
  refine List.forall_mem_cons.mpr ⟨ze_iconst (n := 4) (by decide +kernel) (by decide), ?_⟩
  refine List.forall_mem_cons.mpr ⟨ze_iadd (by decide +kernel), ?_⟩
  refine List.forall_mem_cons.mpr ⟨ze_iconst (n := -1) (by decide +kernel) (by decide), ?_⟩
  refine List.forall_mem_cons.mpr ⟨ze_callSF (idx := 103) (by decide +kernel) ml_X4_103 ms_J7_fill_fda19, ?_⟩
  refine List.forall_mem_cons.mpr ⟨ze_aload_n (k := 0) (by decide +kernel) rfl, ?_⟩
  refine List.forall_mem_cons.mpr ⟨ze_getL (by decide +kernel) fl_X4_17 rfl (by decide), ?_⟩
  refine List.forall_mem_cons.mpr ⟨ze_iload_n (k := 2) (by decide +kernel) rfl, ?_⟩
  refine List.forall_mem_cons.mpr ⟨ze_iload_n (k := 1) (by decide +kernel) rfl, ?_⟩
  refine List.forall_mem_cons.mpr ⟨ze_iastoreF (by decide +kernel), ?_⟩
  refine List.forall_mem_cons.mpr ⟨ze_iload_n (k := 1) (by decide +kernel) rfl, ?_⟩
  refine List.forall_mem_cons.mpr ⟨ze_iconst (n := 5) (by decide +kernel) (by decide), ?_⟩
  refine List.forall_mem_cons.mpr ⟨ze_icmp_ne (off := 7) (by decide +kernel) (by decide), ?_⟩
  refine List.forall_mem_cons.mpr ⟨ze_iconst (n := 2) (by decide +kernel) (by decide), ?_⟩
  refine List.forall_mem_cons.mpr ⟨ze_goto (off := 14) (by decide +kernel) (by decide), ?_⟩
  refine List.forall_mem_cons.mpr ⟨ze_iload_n (k := 1) (by decide +kernel) rfl, ?_⟩
  refine List.forall_mem_cons.mpr ⟨ze_bipush (n := 6) (by decide +kernel) (by decide), ?_⟩
  refine List.forall_mem_cons.mpr ⟨ze_icmp_ne (off := 7) (by decide +kernel) (by decide), ?_⟩
  refine List.forall_mem_cons.mpr ⟨ze_iconst (n := 3) (by decide +kernel) (by decide), ?_⟩
  refine List.forall_mem_cons.mpr ⟨ze_goto (off := 4) (by decide +kernel) (by decide), ?_⟩
  refine List.forall_mem_cons.mpr ⟨ze_iconst (n := 0) (by decide +kernel) (by decide), ?_⟩
  refine List.forall_mem_cons.mpr ⟨ze_istoreF_n (k := 3) (by decide +kernel) rfl (by decide), ?_⟩
  refine List.forall_mem_cons.mpr ⟨ze_iconst (n := 1) (by decide +kernel) (by decide), ?_⟩
  refine List.forall_mem_cons.mpr ⟨ze_istoreF (by decide +kernel) (by decide), ?_⟩
  refine List.forall_mem_cons.mpr ⟨ze_iload (by decide +kernel), ?_⟩
  refine List.forall_mem_cons.mpr ⟨ze_iload_n (k := 3) (by decide +kernel) rfl, ?_⟩
  refine List.forall_mem_cons.mpr ⟨ze_icmp_gt (off := 82) (by decide +kernel) (by decide), ?_⟩
  refine List.forall_mem_cons.mpr ⟨ze_iload (by decide +kernel), ?_⟩
  refine List.forall_mem_cons.mpr ⟨ze_iconst (n := 1) (by decide +kernel) (by decide), ?_⟩
  refine List.forall_mem_cons.mpr ⟨ze_icmp_le (off := 38) (by decide +kernel) (by decide), ?_⟩
  refine List.forall_mem_cons.mpr ⟨ze_aload_n (k := 0) (by decide +kernel) rfl, ?_⟩
  refine List.forall_mem_cons.mpr ⟨ze_callVF (idx := 59) (by decide +kernel) ml_X4_59 mv_X4_skipBlanks rfl, ?_⟩
  refine List.forall_mem_cons.mpr ⟨ze_aload_n (k := 0) (by decide +kernel) rfl, ?_⟩
  refine List.forall_mem_cons.mpr ⟨ze_getL (by decide +kernel) fl_X4_23 rfl (by decide), ?_⟩
  refine List.forall_mem_cons.mpr ⟨ze_aload_n (k := 0) (by decide +kernel) rfl, ?_⟩
  refine List.forall_mem_cons.mpr ⟨ze_getI (by decide +kernel) fl_X4_27 rfl, ?_⟩
  refine List.forall_mem_cons.mpr ⟨ze_callVF (idx := 66) (by decide +kernel) ml_X4_66 mv_X9_at rfl, ?_⟩
  refine List.forall_mem_cons.mpr ⟨ze_bipush (n := 44) (by decide +kernel) (by decide), ?_⟩
  refine List.forall_mem_cons.mpr ⟨ze_icmp_eq (off := 8) (by decide +kernel) (by decide), ?_⟩
  refine List.forall_mem_cons.mpr ⟨ze_aload_n (k := 0) (by decide +kernel) rfl, ?_⟩
  refine List.forall_mem_cons.mpr ⟨ze_getI (by decide +kernel) fl_X4_27 rfl, ?_⟩
  refine List.forall_mem_cons.mpr ⟨ze_iret (by decide +kernel) rfl, ?_⟩
  refine List.forall_mem_cons.mpr ⟨ze_aload_n (k := 0) (by decide +kernel) rfl, ?_⟩
  refine List.forall_mem_cons.mpr ⟨ze_dup (by decide +kernel), ?_⟩
  refine List.forall_mem_cons.mpr ⟨ze_getI (by decide +kernel) fl_X4_27 rfl, ?_⟩
  refine List.forall_mem_cons.mpr ⟨ze_iconst (n := 1) (by decide +kernel) (by decide), ?_⟩
  refine List.forall_mem_cons.mpr ⟨ze_iadd (by decide +kernel), ?_⟩
  refine List.forall_mem_cons.mpr ⟨ze_putI (by decide +kernel) fl_X4_27 ⟨_, _, _, rfl, rfl, by decide +kernel⟩ rfl, ?_⟩
  refine List.forall_mem_cons.mpr ⟨ze_aload_n (k := 0) (by decide +kernel) rfl, ?_⟩
  refine List.forall_mem_cons.mpr ⟨ze_iconst (n := 0) (by decide +kernel) (by decide), ?_⟩
  refine List.forall_mem_cons.mpr ⟨ze_sipush (n := 9999) (by decide +kernel) (by decide), ?_⟩
  refine List.forall_mem_cons.mpr ⟨ze_callVF (idx := 96) (by decide +kernel) ml_X4_96 mv_X4_readNumber rfl, ?_⟩
  refine List.forall_mem_cons.mpr ⟨ze_istoreF (by decide +kernel) (by decide), ?_⟩
  refine List.forall_mem_cons.mpr ⟨ze_iload (by decide +kernel), ?_⟩
  refine List.forall_mem_cons.mpr ⟨ze_iconst (n := -1) (by decide +kernel) (by decide), ?_⟩
  refine List.forall_mem_cons.mpr ⟨ze_icmp_eq (off := 6) (by decide +kernel) (by decide), ?_⟩
  refine List.forall_mem_cons.mpr ⟨ze_iload (by decide +kernel), ?_⟩
  refine List.forall_mem_cons.mpr ⟨ze_iret (by decide +kernel) rfl, ?_⟩
  refine List.forall_mem_cons.mpr ⟨ze_aload_n (k := 0) (by decide +kernel) rfl, ?_⟩
  refine List.forall_mem_cons.mpr ⟨ze_getL (by decide +kernel) fl_X4_17 rfl (by decide), ?_⟩
  refine List.forall_mem_cons.mpr ⟨ze_iload_n (k := 2) (by decide +kernel) rfl, ?_⟩
  refine List.forall_mem_cons.mpr ⟨ze_iload (by decide +kernel), ?_⟩
  refine List.forall_mem_cons.mpr ⟨ze_iadd (by decide +kernel), ?_⟩
  refine List.forall_mem_cons.mpr ⟨ze_aload_n (k := 0) (by decide +kernel) rfl, ?_⟩
  refine List.forall_mem_cons.mpr ⟨ze_getI (by decide +kernel) fl_X4_100 rfl, ?_⟩
  refine List.forall_mem_cons.mpr ⟨ze_iastoreF (by decide +kernel), ?_⟩
  refine List.forall_mem_cons.mpr ⟨ze_iincF (n := 1) (by decide +kernel) (by decide) (by decide), ?_⟩
  refine List.forall_mem_cons.mpr ⟨ze_goto (off := -82) (by decide +kernel) (by decide), ?_⟩
  refine List.forall_mem_cons.mpr ⟨ze_iconst (n := -1) (by decide +kernel) (by decide), ?_⟩
  refine List.forall_mem_cons.mpr ⟨ze_iret (by decide +kernel) rfl, ?_⟩
  exact fun _ h => absurd h List.not_mem_nil
theorem vX4_readStepNumbers {l : Launch} {G : GT} {d : Nat} {av : List Value} {Q : Po} {σ : Mm} (cs : List (Nat × List Nat)) (k : Nat) (h : vc l G d mX4_readStepNumbers TX4_readStepNumbers Q cs k TX4_readStepNumbers (lv_args 0 av) [] σ) (hlen : (lg_sl av).length ≤ mX4_readStepNumbers.2.2.1 := by exact Nat.le_of_ble_eq_true rfl) : MW l G d mX4_readStepNumbers av σ Q := mw_vc TX4_readStepNumbers_ok mc_X4_readStepNumbers rfl hlen cs k rfl h
theorem wX4_readStepNumbers {l : Launch} {G : GT} {d : Nat} {Q : Po} {pc : Nat} {lv : Lv} {st : List Value} {σ : Mm} (cs : List (Nat × List Nat)) (k : Nat) (h : vc l G d mX4_readStepNumbers TX4_readStepNumbers Q cs k (drp TX4_readStepNumbers pc) lv st σ) (hpc : hdp (drp TX4_readStepNumbers pc) = pc := by rfl) : Wp l G d mX4_readStepNumbers pc lv st σ Q := wp_vc TX4_readStepNumbers_ok cs k hpc h
