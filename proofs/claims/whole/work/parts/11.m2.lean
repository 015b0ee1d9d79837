def TX12_years : List In := [(0, 1, zt_aload 0), (1, 2, zt_ic 0), (2, 5, zt_putI 20 0), (5, 6, zt_aload 0), (6, 9, zt_getI 20 17), (9, 12, zt_if_eq 24), (12, 13, zt_iload 1), (13, 14, zt_i2l), (14, 15, zt_lc 1), (15, 18, zt_lc (40 : Int64)), (18, 21, zt_callSF mX12_isIn 3), (21, 24, zt_if_ne 26), (24, 25, zt_ic (-1)), (25, 26, zt_iret), (26, 27, zt_aload 0), (27, 28, zt_lload 2), (28, 31, zt_putJ 20 36), (31, 32, zt_ic 0), (32, 34, zt_istoreF 4), (34, 36, zt_iload 4), (36, 37, zt_iload 1), (37, 40, zt_icmp_ge 52), (40, 41, zt_aload 0), (41, 44, zt_callVF mX12_happens 0 20), (44, 46, zt_istoreF 5), (46, 49, zt_iincF 4 1), (49, 52, zt_goto 34), (52, 53, zt_aload 0), (53, 56, zt_getL 20 20), (56, 58, zt_ic 7), (58, 59, zt_iald), (59, 60, zt_iret)]
theorem TX12_years_ok : ∀ i ∈ TX12_years, Ent mX12_years i := by
  refine List.forall_mem_cons.mpr ⟨ze_aload_n (k := 0) (by decide +kernel) rfl, ?_⟩
  refine List.forall_mem_cons.mpr ⟨ze_iconst (n := 0) (by decide +kernel) (by decide), ?_⟩
  refine List.forall_mem_cons.mpr ⟨ze_putI (by decide +kernel) fl_X12_82 ⟨_, _, _, rfl, rfl, by decide +kernel⟩ rfl, ?_⟩
  refine List.forall_mem_cons.mpr ⟨ze_aload_n (k := 0) (by decide +kernel) rfl, ?_⟩
  refine List.forall_mem_cons.mpr ⟨ze_getI (by decide +kernel) fl_X12_202 rfl, ?_⟩
  refine List.forall_mem_cons.mpr ⟨ze_if_eq (off := 15) (by decide +kernel) (by decide), ?_⟩
  refine List.forall_mem_cons.mpr ⟨ze_iload_n (k := 1) (by decide +kernel) rfl, ?_⟩
  refine List.forall_mem_cons.mpr ⟨ze_i2l (by decide +kernel), ?_⟩
  refine List.forall_mem_cons.mpr ⟨ze_lconst (n := 1) (by decide +kernel) (by decide), ?_⟩
  refine List.forall_mem_cons.mpr ⟨ze_ldc2 (i := 383) (by decide +kernel) kc_X12_383, ?_⟩
  refine List.forall_mem_cons.mpr ⟨ze_callSF (idx := 148) (by decide +kernel) ml_X12_148 ms_X12_isIn, ?_⟩
  refine List.forall_mem_cons.mpr ⟨ze_if_ne (off := 5) (by decide +kernel) (by decide), ?_⟩
  refine List.forall_mem_cons.mpr ⟨ze_iconst (n := -1) (by decide +kernel) (by decide), ?_⟩
  refine List.forall_mem_cons.mpr ⟨ze_iret (by decide +kernel) rfl, ?_⟩
  refine List.forall_mem_cons.mpr ⟨ze_aload_n (k := 0) (by decide +kernel) rfl, ?_⟩
  refine List.forall_mem_cons.mpr ⟨ze_lload_n (k := 2) (by decide +kernel) rfl, ?_⟩
  refine List.forall_mem_cons.mpr ⟨ze_putJ (by decide +kernel) fl_X12_372 ⟨_, _, _, rfl, rfl, by decide +kernel⟩ rfl, ?_⟩
  refine List.forall_mem_cons.mpr ⟨ze_iconst (n := 0) (by decide +kernel) (by decide), ?_⟩
  refine List.forall_mem_cons.mpr ⟨ze_istoreF (by decide +kernel) (by decide), ?_⟩
  refine List.forall_mem_cons.mpr ⟨ze_iload (by decide +kernel), ?_⟩
  refine List.forall_mem_cons.mpr ⟨ze_iload_n (k := 1) (by decide +kernel) rfl, ?_⟩
  refine List.forall_mem_cons.mpr ⟨ze_icmp_ge (off := 15) (by decide +kernel) (by decide), ?_⟩
  refine List.forall_mem_cons.mpr ⟨ze_aload_n (k := 0) (by decide +kernel) rfl, ?_⟩
  refine List.forall_mem_cons.mpr ⟨ze_callVF (idx := 385) (by decide +kernel) ml_X12_385 mv_X12_happens rfl, ?_⟩
  refine List.forall_mem_cons.mpr ⟨ze_istoreF (by decide +kernel) (by decide), ?_⟩
  refine List.forall_mem_cons.mpr ⟨ze_iincF (n := 1) (by decide +kernel) (by decide) (by decide), ?_⟩
  refine List.forall_mem_cons.mpr ⟨ze_goto (off := -15) (by decide +kernel) (by decide), ?_⟩
  refine List.forall_mem_cons.mpr ⟨ze_aload_n (k := 0) (by decide +kernel) rfl, ?_⟩
  refine List.forall_mem_cons.mpr ⟨ze_getL (by decide +kernel) fl_X12_38 rfl (by decide), ?_⟩
  refine List.forall_mem_cons.mpr ⟨ze_bipush (n := 7) (by decide +kernel) (by decide), ?_⟩
  refine List.forall_mem_cons.mpr ⟨ze_iald (by decide +kernel), ?_⟩
  refine List.forall_mem_cons.mpr ⟨ze_iret (by decide +kernel) rfl, ?_⟩
  exact fun _ h => absurd h List.not_mem_nil
theorem vX12_years {l : Launch} {G : GT} {d : Nat} {av : List Value} {Q : Po} {σ : Mm} (cs : List (Nat × List Nat)) (k : Nat) (h : vc l G d mX12_years TX12_years Q cs k TX12_years (lv_args 0 av) [] σ) (hlen : (lg_sl av).length ≤ mX12_years.2.2.1 := by exact Nat.le_of_ble_eq_true rfl) : MW l G d mX12_years av σ Q := mw_vc TX12_years_ok mc_X12_years rfl hlen cs k rfl h
theorem wX12_years {l : Launch} {G : GT} {d : Nat} {Q : Po} {pc : Nat} {lv : Lv} {st : List Value} {σ : Mm} (cs : List (Nat × List Nat)) (k : Nat) (h : vc l G d mX12_years TX12_years Q cs k (drp TX12_years pc) lv st σ) (hpc : hdp (drp TX12_years pc) = pc := by rfl) : Wp l G d mX12_years pc lv st σ Q := wp_vc TX12_years_ok cs k hpc h
def TX12_status : List In := [(0, 1, zt_aload 0), (1, 2, zt_ic 0), (2, 5, zt_putI 20 0), (5, 6, zt_iload 1), (6, 7, zt_i2l), (7, 8, zt_lc 0), (8, 11, zt_lc (3 : Int64)), (11, 14, zt_callSF mX12_isIn 3), (14, 17, zt_if_eq 26), (17, 18, zt_aload 0), (18, 21, zt_getL 20 10), (21, 22, zt_iload 1), (22, 23, zt_iald), (23, 26, zt_goto 27), (26, 27, zt_ic (-1)), (27, 28, zt_iret)]
theorem TX12_status_ok : ∀ i ∈ TX12_status, Ent mX12_status i := by
  refine List.forall_mem_cons.mpr ⟨ze_aload_n (k := 0) (by decide +kernel) rfl, ?_⟩
  refine List.forall_mem_cons.mpr ⟨ze_iconst (n := 0) (by decide +kernel) (by decide), ?_⟩
  refine List.forall_mem_cons.mpr ⟨ze_putI (by decide +kernel) fl_X12_82 ⟨_, _, _, rfl, rfl, by decide +kernel⟩ rfl, ?_⟩
  refine List.forall_mem_cons.mpr ⟨ze_iload_n (k := 1) (by decide +kernel) rfl, ?_⟩
  refine List.forall_mem_cons.mpr ⟨ze_i2l (by decide +kernel), ?_⟩
  refine List.forall_mem_cons.mpr ⟨ze_lconst (n := 0) (by decide +kernel) (by decide), ?_⟩
  refine List.forall_mem_cons.mpr ⟨ze_ldc2 (i := 388) (by decide +kernel) kc_X12_388, ?_⟩
  refine List.forall_mem_cons.mpr ⟨ze_callSF (idx := 148) (by decide +kernel) ml_X12_148 ms_X12_isIn, ?_⟩
  refine List.forall_mem_cons.mpr ⟨ze_if_eq (off := 12) (by decide +kernel) (by decide), ?_⟩
  refine List.forall_mem_cons.mpr ⟨ze_aload_n (k := 0) (by decide +kernel) rfl, ?_⟩
  refine List.forall_mem_cons.mpr ⟨ze_getL (by decide +kernel) fl_X12_29 rfl (by decide), ?_⟩
  refine List.forall_mem_cons.mpr ⟨ze_iload_n (k := 1) (by decide +kernel) rfl, ?_⟩
  refine List.forall_mem_cons.mpr ⟨ze_iald (by decide +kernel), ?_⟩
  refine List.forall_mem_cons.mpr ⟨ze_goto (off := 4) (by decide +kernel) (by decide), ?_⟩
  refine List.forall_mem_cons.mpr ⟨ze_iconst (n := -1) (by decide +kernel) (by decide), ?_⟩
  refine List.forall_mem_cons.mpr ⟨ze_iret (by decide +kernel) rfl, ?_⟩
  exact fun _ h => absurd h List.not_mem_nil
theorem vX12_status {l : Launch} {G : GT} {d : Nat} {av : List Value} {Q : Po} {σ : Mm} (cs : List (Nat × List Nat)) (k : Nat) (h : vc l G d mX12_status TX12_status Q cs k TX12_status (lv_args 0 av) [] σ) (hlen : (lg_sl av).length ≤ mX12_status.2.2.1 := by exact Nat.le_of_ble_eq_true rfl) : MW l G d mX12_status av σ Q := mw_vc TX12_status_ok mc_X12_status rfl hlen cs k rfl h
theorem wX12_status {l : Launch} {G : GT} {d : Nat} {Q : Po} {pc : Nat} {lv : Lv} {st : List Value} {σ : Mm} (cs : List (Nat × List Nat)) (k : Nat) (h : vc l G d mX12_status TX12_status Q cs k (drp TX12_status pc) lv st σ) (hpc : hdp (drp TX12_status pc) = pc := by rfl) : Wp l G d mX12_status pc lv st σ Q := wp_vc TX12_status_ok cs k hpc h
def TX12_undo : List In := [(0, 1, zt_aload 0), (1, 2, zt_ic 0), (2, 5, zt_putI 20 0), (5, 6, zt_aload 0), (6, 9, zt_getI 20 25), (9, 12, zt_if_ne 14), (12, 13, zt_ic (-1)), (13, 14, zt_iret), (14, 15, zt_aload 0), (15, 16, zt_dup), (16, 19, zt_getI 20 25), (19, 20, zt_ic 1), (20, 21, zt_isub), (21, 24, zt_putI 20 25), (24, 25, zt_aload 0), (25, 28, zt_getL 20 23), (28, 31, zt_ic 494), (31, 32, zt_aload 0), (32, 35, zt_getI 20 24), (35, 36, zt_aload 0), (36, 39, zt_getI 20 25), (39, 40, zt_iadd), (40, 42, zt_ic 40), (42, 43, zt_irem), (43, 44, zt_imul), (44, 45, zt_aload 0), (45, 48, zt_getL 20 20), (48, 49, zt_ic 0), (49, 52, zt_callSF mX12_copyRow 4), (52, 53, zt_aload 0), (53, 56, zt_getI 20 25), (56, 57, zt_iret)]
theorem TX12_undo_ok : ∀ i ∈ TX12_undo, Ent mX12_undo i := by
  refine List.forall_mem_cons.mpr ⟨ze_aload_n (k := 0) (by decide +kernel) rfl, ?_⟩
  refine List.forall_mem_cons.mpr ⟨ze_iconst (n := 0) (by decide +kernel) (by decide), ?_⟩
  refine List.forall_mem_cons.mpr ⟨ze_putI (by decide +kernel) fl_X12_82 ⟨_, _, _, rfl, rfl, by decide +kernel⟩ rfl, ?_⟩
  refine List.forall_mem_cons.mpr ⟨ze_aload_n (k := 0) (by decide +kernel) rfl, ?_⟩
  refine List.forall_mem_cons.mpr ⟨ze_getI (by decide +kernel) fl_X12_214 rfl, ?_⟩
  refine List.forall_mem_cons.mpr ⟨ze_if_ne (off := 5) (by decide +kernel) (by decide), ?_⟩
  refine List.forall_mem_cons.mpr ⟨ze_iconst (n := -1) (by decide +kernel) (by decide), ?_⟩
  refine List.forall_mem_cons.mpr ⟨ze_iret (by decide +kernel) rfl, ?_⟩
  refine List.forall_mem_cons.mpr ⟨ze_aload_n (k := 0) (by decide +kernel) rfl, ?_⟩
  refine List.forall_mem_cons.mpr ⟨ze_dup (by decide +kernel), ?_⟩
  refine List.forall_mem_cons.mpr ⟨ze_getI (by decide +kernel) fl_X12_214 rfl, ?_⟩
  refine List.forall_mem_cons.mpr ⟨ze_iconst (n := 1) (by decide +kernel) (by decide), ?_⟩
  refine List.forall_mem_cons.mpr ⟨ze_isub (by decide +kernel), ?_⟩
  refine List.forall_mem_cons.mpr ⟨ze_putI (by decide +kernel) fl_X12_214 ⟨_, _, _, rfl, rfl, by decide +kernel⟩ rfl, ?_⟩
  refine List.forall_mem_cons.mpr ⟨ze_aload_n (k := 0) (by decide +kernel) rfl, ?_⟩
  refine List.forall_mem_cons.mpr ⟨ze_getL (by decide +kernel) fl_X12_47 rfl (by decide), ?_⟩
  refine List.forall_mem_cons.mpr ⟨ze_sipush (n := 494) (by decide +kernel) (by decide), ?_⟩
  refine List.forall_mem_cons.mpr ⟨ze_aload_n (k := 0) (by decide +kernel) rfl, ?_⟩
  refine List.forall_mem_cons.mpr ⟨ze_getI (by decide +kernel) fl_X12_350 rfl, ?_⟩
  refine List.forall_mem_cons.mpr ⟨ze_aload_n (k := 0) (by decide +kernel) rfl, ?_⟩
  refine List.forall_mem_cons.mpr ⟨ze_getI (by decide +kernel) fl_X12_214 rfl, ?_⟩
  refine List.forall_mem_cons.mpr ⟨ze_iadd (by decide +kernel), ?_⟩
  refine List.forall_mem_cons.mpr ⟨ze_bipush (n := 40) (by decide +kernel) (by decide), ?_⟩
  refine List.forall_mem_cons.mpr ⟨ze_irem (by decide +kernel), ?_⟩
  refine List.forall_mem_cons.mpr ⟨ze_imul (by decide +kernel), ?_⟩
  refine List.forall_mem_cons.mpr ⟨ze_aload_n (k := 0) (by decide +kernel) rfl, ?_⟩
  refine List.forall_mem_cons.mpr ⟨ze_getL (by decide +kernel) fl_X12_38 rfl (by decide), ?_⟩
  refine List.forall_mem_cons.mpr ⟨ze_iconst (n := 0) (by decide +kernel) (by decide), ?_⟩
  refine List.forall_mem_cons.mpr ⟨ze_callSF (idx := 353) (by decide +kernel) ml_X12_353 ms_X12_copyRow, ?_⟩
  refine List.forall_mem_cons.mpr ⟨ze_aload_n (k := 0) (by decide +kernel) rfl, ?_⟩
  refine List.forall_mem_cons.mpr ⟨ze_getI (by decide +kernel) fl_X12_214 rfl, ?_⟩
  refine List.forall_mem_cons.mpr ⟨ze_iret (by decide +kernel) rfl, ?_⟩
  exact fun _ h => absurd h List.not_mem_nil
theorem vX12_undo {l : Launch} {G : GT} {d : Nat} {av : List Value} {Q : Po} {σ : Mm} (cs : List (Nat × List Nat)) (k : Nat) (h : vc l G d mX12_undo TX12_undo Q cs k TX12_undo (lv_args 0 av) [] σ) (hlen : (lg_sl av).length ≤ mX12_undo.2.2.1 := by exact Nat.le_of_ble_eq_true rfl) : MW l G d mX12_undo av σ Q := mw_vc TX12_undo_ok mc_X12_undo rfl hlen cs k rfl h
theorem wX12_undo {l : Launch} {G : GT} {d : Nat} {Q : Po} {pc : Nat} {lv : Lv} {st : List Value} {σ : Mm} (cs : List (Nat × List Nat)) (k : Nat) (h : vc l G d mX12_undo TX12_undo Q cs k (drp TX12_undo pc) lv st σ) (hpc : hdp (drp TX12_undo pc) = pc := by rfl) : Wp l G d mX12_undo pc lv st σ Q := wp_vc TX12_undo_ok cs k hpc h
def TX12_log : List In := [(0, 1, zt_aload 0), (1, 2, zt_ic 0), (2, 5, zt_putI 20 0), (5, 6, zt_iload 1), (6, 9, zt_if_lt 33), (9, 10, zt_iload 1), (10, 11, zt_aload 0), (11, 14, zt_getL 20 20), (14, 17, zt_ic 313), (17, 18, zt_iald), (18, 21, zt_icmp_ge 33), (21, 22, zt_iload 2), (22, 23, zt_i2l), (23, 24, zt_lc 0), (24, 27, zt_lc (2 : Int64)), (27, 30, zt_callSF mX12_isIn 3), (30, 33, zt_if_ne 37), (33, 36, zt_ic (-1000000 : Int32)), (36, 37, zt_iret), (37, 38, zt_aload 0), (38, 41, zt_getL 20 20), (41, 44, zt_ic 314), (44, 45, zt_ic 3), (45, 46, zt_aload 0), (46, 49, zt_getL 20 20), (49, 52, zt_ic 313), (52, 53, zt_iald), (53, 54, zt_ic 1), (54, 55, zt_isub), (55, 56, zt_iload 1), (56, 57, zt_isub), (57, 58, zt_imul), (58, 59, zt_iadd), (59, 60, zt_iload 2), (60, 61, zt_iadd), (61, 62, zt_iald), (62, 63, zt_iret)]
theorem TX12_log_ok : ∀ i ∈ TX12_log, Ent mX12_log i := by
  refine List.forall_mem_cons.mpr ⟨ze_aload_n (k := 0) (by decide +kernel) rfl, ?_⟩
  refine List.forall_mem_cons.mpr ⟨ze_iconst (n := 0) (by decide +kernel) (by decide), ?_⟩
  refine List.forall_mem_cons.mpr ⟨ze_putI (by decide +kernel) fl_X12_82 ⟨_, _, _, rfl, rfl, by decide +kernel⟩ rfl, ?_⟩
  refine List.forall_mem_cons.mpr ⟨ze_iload_n (k := 1) (by decide +kernel) rfl, ?_⟩
  refine List.forall_mem_cons.mpr ⟨ze_if_lt (off := 27) (by decide +kernel) (by decide), ?_⟩
  refine List.forall_mem_cons.mpr ⟨ze_iload_n (k := 1) (by decide +kernel) rfl, ?_⟩
  refine List.forall_mem_cons.mpr ⟨ze_aload_n (k := 0) (by decide +kernel) rfl, ?_⟩
  refine List.forall_mem_cons.mpr ⟨ze_getL (by decide +kernel) fl_X12_38 rfl (by decide), ?_⟩
  refine List.forall_mem_cons.mpr ⟨ze_sipush (n := 313) (by decide +kernel) (by decide), ?_⟩
  refine List.forall_mem_cons.mpr ⟨ze_iald (by decide +kernel), ?_⟩
  refine List.forall_mem_cons.mpr ⟨ze_icmp_ge (off := 15) (by decide +kernel) (by decide), ?_⟩
  refine List.forall_mem_cons.mpr ⟨ze_iload_n (k := 2) (by decide +kernel) rfl, ?_⟩
  refine List.forall_mem_cons.mpr ⟨ze_i2l (by decide +kernel), ?_⟩
  refine List.forall_mem_cons.mpr ⟨ze_lconst (n := 0) (by decide +kernel) (by decide), ?_⟩
  refine List.forall_mem_cons.mpr ⟨ze_ldc2 (i := 191) (by decide +kernel) kc_X12_191, ?_⟩
  refine List.forall_mem_cons.mpr ⟨ze_callSF (idx := 148) (by decide +kernel) ml_X12_148 ms_X12_isIn, ?_⟩
  refine List.forall_mem_cons.mpr ⟨ze_if_ne (off := 7) (by decide +kernel) (by decide), ?_⟩
  refine List.forall_mem_cons.mpr ⟨ze_ldcw (i := 390) (by decide +kernel) kc_X12_390, ?_⟩
  refine List.forall_mem_cons.mpr ⟨ze_iret (by decide +kernel) rfl, ?_⟩
  refine List.forall_mem_cons.mpr ⟨ze_aload_n (k := 0) (by decide +kernel) rfl, ?_⟩
  refine List.forall_mem_cons.mpr ⟨ze_getL (by decide +kernel) fl_X12_38 rfl (by decide), ?_⟩
  refine List.forall_mem_cons.mpr ⟨ze_sipush (n := 314) (by decide +kernel) (by decide), ?_⟩
  refine List.forall_mem_cons.mpr ⟨ze_iconst (n := 3) (by decide +kernel) (by decide), ?_⟩
  refine List.forall_mem_cons.mpr ⟨ze_aload_n (k := 0) (by decide +kernel) rfl, ?_⟩
  refine List.forall_mem_cons.mpr ⟨ze_getL (by decide +kernel) fl_X12_38 rfl (by decide), ?_⟩
  refine List.forall_mem_cons.mpr ⟨ze_sipush (n := 313) (by decide +kernel) (by decide), ?_⟩
  refine List.forall_mem_cons.mpr ⟨ze_iald (by decide +kernel), ?_⟩
  refine List.forall_mem_cons.mpr ⟨ze_iconst (n := 1) (by decide +kernel) (by decide), ?_⟩
  refine List.forall_mem_cons.mpr ⟨ze_isub (by decide +kernel), ?_⟩
  refine List.forall_mem_cons.mpr ⟨ze_iload_n (k := 1) (by decide +kernel) rfl, ?_⟩
  refine List.forall_mem_cons.mpr ⟨ze_isub (by decide +kernel), ?_⟩
  refine List.forall_mem_cons.mpr ⟨ze_imul (by decide +kernel), ?_⟩
  refine List.forall_mem_cons.mpr ⟨ze_iadd (by decide +kernel), ?_⟩
  refine List.forall_mem_cons.mpr ⟨ze_iload_n (k := 2) (by decide +kernel) rfl, ?_⟩
  refine List.forall_mem_cons.mpr ⟨ze_iadd (by decide +kernel), ?_⟩
  refine List.forall_mem_cons.mpr ⟨ze_iald (by decide +kernel), ?_⟩
  refine List.forall_mem_cons.mpr ⟨ze_iret (by decide +kernel) rfl, ?_⟩
  exact fun _ h => absurd h List.not_mem_nil
theorem vX12_log {l : Launch} {G : GT} {d : Nat} {av : List Value} {Q : Po} {σ : Mm} (cs : List (Nat × List Nat)) (k : Nat) (h : vc l G d mX12_log TX12_log Q cs k TX12_log (lv_args 0 av) [] σ) (hlen : (lg_sl av).length ≤ mX12_log.2.2.1 := by exact Nat.le_of_ble_eq_true rfl) : MW l G d mX12_log av σ Q := mw_vc TX12_log_ok mc_X12_log rfl hlen cs k rfl h
theorem wX12_log {l : Launch} {G : GT} {d : Nat} {Q : Po} {pc : Nat} {lv : Lv} {st : List Value} {σ : Mm} (cs : List (Nat × List Nat)) (k : Nat) (h : vc l G d mX12_log TX12_log Q cs k (drp TX12_log pc) lv st σ) (hpc : hdp (drp TX12_log pc) = pc := by rfl) : Wp l G d mX12_log pc lv st σ Q := wp_vc TX12_log_ok cs k hpc h
def TX12_image : List In := [(0, 1, zt_aload 0), (1, 2, zt_ic 0), (2, 5, zt_putI 20 0), (5, 6, zt_aload 0), (6, 9, zt_getI 20 17), (9, 12, zt_if_ne 14), (12, 13, zt_ic (-1)), (13, 14, zt_iret), (14, 15, zt_aload 0), (15, 18, zt_getL 20 20), (18, 19, zt_ic 0), (19, 20, zt_aload 0), (20, 23, zt_getL 20 22), (23, 24, zt_ic 0), (24, 27, zt_callSF mX12_copyRow 4), (27, 28, zt_aload 0), (28, 29, zt_ic 1), (29, 32, zt_putZ 20 26), (32, 33, zt_aload 0), (33, 36, zt_getL 20 20), (36, 38, zt_ic 7), (38, 39, zt_iald), (39, 40, zt_iret)]
theorem TX12_image_ok : ∀ i ∈ TX12_image, Ent mX12_image i := by
  refine List.forall_mem_cons.mpr ⟨ze_aload_n (k := 0) (by decide +kernel) rfl, ?_⟩
  refine List.forall_mem_cons.mpr ⟨ze_iconst (n := 0) (by decide +kernel) (by decide), ?_⟩
  refine List.forall_mem_cons.mpr ⟨ze_putI (by decide +kernel) fl_X12_82 ⟨_, _, _, rfl, rfl, by decide +kernel⟩ rfl, ?_⟩
  refine List.forall_mem_cons.mpr ⟨ze_aload_n (k := 0) (by decide +kernel) rfl, ?_⟩
  refine List.forall_mem_cons.mpr ⟨ze_getI (by decide +kernel) fl_X12_202 rfl, ?_⟩
  refine List.forall_mem_cons.mpr ⟨ze_if_ne (off := 5) (by decide +kernel) (by decide), ?_⟩
  refine List.forall_mem_cons.mpr ⟨ze_iconst (n := -1) (by decide +kernel) (by decide), ?_⟩
  refine List.forall_mem_cons.mpr ⟨ze_iret (by decide +kernel) rfl, ?_⟩
  refine List.forall_mem_cons.mpr ⟨ze_aload_n (k := 0) (by decide +kernel) rfl, ?_⟩
  refine List.forall_mem_cons.mpr ⟨ze_getL (by decide +kernel) fl_X12_38 rfl (by decide), ?_⟩
  refine List.forall_mem_cons.mpr ⟨ze_iconst (n := 0) (by decide +kernel) (by decide), ?_⟩
  refine List.forall_mem_cons.mpr ⟨ze_aload_n (k := 0) (by decide +kernel) rfl, ?_⟩
  refine List.forall_mem_cons.mpr ⟨ze_getL (by decide +kernel) fl_X12_44 rfl (by decide), ?_⟩
  refine List.forall_mem_cons.mpr ⟨ze_iconst (n := 0) (by decide +kernel) (by decide), ?_⟩
  refine List.forall_mem_cons.mpr ⟨ze_callSF (idx := 353) (by decide +kernel) ml_X12_353 ms_X12_copyRow, ?_⟩
  refine List.forall_mem_cons.mpr ⟨ze_aload_n (k := 0) (by decide +kernel) rfl, ?_⟩
  refine List.forall_mem_cons.mpr ⟨ze_iconst (n := 1) (by decide +kernel) (by decide), ?_⟩
  refine List.forall_mem_cons.mpr ⟨ze_putZ (by decide +kernel) fl_X12_217 ⟨_, _, _, rfl, rfl, by decide +kernel⟩ rfl, ?_⟩
  refine List.forall_mem_cons.mpr ⟨ze_aload_n (k := 0) (by decide +kernel) rfl, ?_⟩
  refine List.forall_mem_cons.mpr ⟨ze_getL (by decide +kernel) fl_X12_38 rfl (by decide), ?_⟩
  refine List.forall_mem_cons.mpr ⟨ze_bipush (n := 7) (by decide +kernel) (by decide), ?_⟩
  refine List.forall_mem_cons.mpr ⟨ze_iald (by decide +kernel), ?_⟩
  refine List.forall_mem_cons.mpr ⟨ze_iret (by decide +kernel) rfl, ?_⟩
  exact fun _ h => absurd h List.not_mem_nil
theorem vX12_image {l : Launch} {G : GT} {d : Nat} {av : List Value} {Q : Po} {σ : Mm} (cs : List (Nat × List Nat)) (k : Nat) (h : vc l G d mX12_image TX12_image Q cs k TX12_image (lv_args 0 av) [] σ) (hlen : (lg_sl av).length ≤ mX12_image.2.2.1 := by exact Nat.le_of_ble_eq_true rfl) : MW l G d mX12_image av σ Q := mw_vc TX12_image_ok mc_X12_image rfl hlen cs k rfl h
theorem wX12_image {l : Launch} {G : GT} {d : Nat} {Q : Po} {pc : Nat} {lv : Lv} {st : List Value} {σ : Mm} (cs : List (Nat × List Nat)) (k : Nat) (h : vc l G d mX12_image TX12_image Q cs k (drp TX12_image pc) lv st σ) (hpc : hdp (drp TX12_image pc) = pc := by rfl) : Wp l G d mX12_image pc lv st σ Q := wp_vc TX12_image_ok cs k hpc h
def TX12_back : List In := [(0, 1, zt_aload 0), (1, 2, zt_ic 0), (2, 5, zt_putI 20 0), (5, 6, zt_aload 0), (6, 9, zt_getI 20 26), (9, 12, zt_if_ne 14), (12, 13, zt_ic (-1)), (13, 14, zt_iret), (14, 15, zt_aload 0), (15, 18, zt_getL 20 22), (18, 19, zt_ic 0), (19, 20, zt_aload 0), (20, 23, zt_getL 20 20), (23, 24, zt_ic 0), (24, 27, zt_callSF mX12_copyRow 4), (27, 28, zt_aload 0), (28, 29, zt_ic 0), (29, 32, zt_putI 20 25), (32, 33, zt_aload 0), (33, 36, zt_getL 20 20), (36, 38, zt_ic 7), (38, 39, zt_iald), (39, 40, zt_iret)]
theorem TX12_back_ok : ∀ i ∈ TX12_back, Ent mX12_back i := by
  refine List.forall_mem_cons.mpr ⟨ze_aload_n (k := 0) (by decide +kernel) rfl, ?_⟩
  refine List.forall_mem_cons.mpr ⟨ze_iconst (n := 0) (by decide +kernel) (by decide), ?_⟩
  refine List.forall_mem_cons.mpr ⟨ze_putI (by decide +kernel) fl_X12_82 ⟨_, _, _, rfl, rfl, by decide +kernel⟩ rfl, ?_⟩
  refine List.forall_mem_cons.mpr ⟨ze_aload_n (k := 0) (by decide +kernel) rfl, ?_⟩
  refine List.forall_mem_cons.mpr ⟨ze_getI (by decide +kernel) fl_X12_217 rfl, ?_⟩
  refine List.forall_mem_cons.mpr ⟨ze_if_ne (off := 5) (by decide +kernel) (by decide), ?_⟩
  refine List.forall_mem_cons.mpr ⟨ze_iconst (n := -1) (by decide +kernel) (by decide), ?_⟩
  refine List.forall_mem_cons.mpr ⟨ze_iret (by decide +kernel) rfl, ?_⟩
  refine List.forall_mem_cons.mpr ⟨ze_aload_n (k := 0) (by decide +kernel) rfl, ?_⟩
  refine List.forall_mem_cons.mpr ⟨ze_getL (by decide +kernel) fl_X12_44 rfl (by decide), ?_⟩
  refine List.forall_mem_cons.mpr ⟨ze_iconst (n := 0) (by decide +kernel) (by decide), ?_⟩
  refine List.forall_mem_cons.mpr ⟨ze_aload_n (k := 0) (by decide +kernel) rfl, ?_⟩
  refine List.forall_mem_cons.mpr ⟨ze_getL (by decide +kernel) fl_X12_38 rfl (by decide), ?_⟩
  refine List.forall_mem_cons.mpr ⟨ze_iconst (n := 0) (by decide +kernel) (by decide), ?_⟩
  refine List.forall_mem_cons.mpr ⟨ze_callSF (idx := 353) (by decide +kernel) ml_X12_353 ms_X12_copyRow, ?_⟩
  refine List.forall_mem_cons.mpr ⟨ze_aload_n (k := 0) (by decide +kernel) rfl, ?_⟩
  refine List.forall_mem_cons.mpr ⟨ze_iconst (n := 0) (by decide +kernel) (by decide), ?_⟩
  refine List.forall_mem_cons.mpr ⟨ze_putI (by decide +kernel) fl_X12_214 ⟨_, _, _, rfl, rfl, by decide +kernel⟩ rfl, ?_⟩
  refine List.forall_mem_cons.mpr ⟨ze_aload_n (k := 0) (by decide +kernel) rfl, ?_⟩
  refine List.forall_mem_cons.mpr ⟨ze_getL (by decide +kernel) fl_X12_38 rfl (by decide), ?_⟩
  refine List.forall_mem_cons.mpr ⟨ze_bipush (n := 7) (by decide +kernel) (by decide), ?_⟩
  refine List.forall_mem_cons.mpr ⟨ze_iald (by decide +kernel), ?_⟩
  refine List.forall_mem_cons.mpr ⟨ze_iret (by decide +kernel) rfl, ?_⟩
  exact fun _ h => absurd h List.not_mem_nil
theorem vX12_back {l : Launch} {G : GT} {d : Nat} {av : List Value} {Q : Po} {σ : Mm} (cs : List (Nat × List Nat)) (k : Nat) (h : vc l G d mX12_back TX12_back Q cs k TX12_back (lv_args 0 av) [] σ) (hlen : (lg_sl av).length ≤ mX12_back.2.2.1 := by exact Nat.le_of_ble_eq_true rfl) : MW l G d mX12_back av σ Q := mw_vc TX12_back_ok mc_X12_back rfl hlen cs k rfl h
theorem wX12_back {l : Launch} {G : GT} {d : Nat} {Q : Po} {pc : Nat} {lv : Lv} {st : List Value} {σ : Mm} (cs : List (Nat × List Nat)) (k : Nat) (h : vc l G d mX12_back TX12_back Q cs k (drp TX12_back pc) lv st σ) (hpc : hdp (drp TX12_back pc) = pc := by rfl) : Wp l G d mX12_back pc lv st σ Q := wp_vc TX12_back_ok cs k hpc h
def TX12_rule : List In := [(0, 1, zt_aload 0), (1, 2, zt_ic 0), (2, 5, zt_putI 20 0), (5, 6, zt_aload 0), (6, 9, zt_getI 20 17), (9, 12, zt_if_eq 24), (12, 13, zt_iload 1), (13, 14, zt_i2l), (14, 15, zt_lc 0), (15, 18, zt_lc (13 : Int64)), (18, 21, zt_callSF mX12_isIn 3), (21, 24, zt_if_ne 26), (24, 25, zt_ic (-1)), (25, 26, zt_iret), (26, 27, zt_iload 1), (27, 28, zt_ic 2), (28, 31, zt_icmp_ne 40), (31, 32, zt_aload 0), (32, 35, zt_getL 20 20), (35, 36, zt_ic 2), (36, 37, zt_iald), (37, 40, zt_goto 61), (40, 41, zt_iload 1), (41, 43, zt_ic 11), (43, 46, zt_icmp_ne 55), (46, 47, zt_aload 0), (47, 50, zt_getL 20 20), (50, 51, zt_ic 3), (51, 52, zt_iald), (52, 55, zt_goto 61), (55, 56, zt_aload 0), (56, 59, zt_getL 20 6), (59, 60, zt_iload 1), (60, 61, zt_iald), (61, 62, zt_iret)]
theorem TX12_rule_ok : ∀ i ∈ TX12_rule, Ent mX12_rule i := by
  refine List.forall_mem_cons.mpr ⟨ze_aload_n (k := 0) (by decide +kernel) rfl, ?_⟩
  refine List.forall_mem_cons.mpr ⟨ze_iconst (n := 0) (by decide +kernel) (by decide), ?_⟩
  refine List.forall_mem_cons.mpr ⟨ze_putI (by decide +kernel) fl_X12_82 ⟨_, _, _, rfl, rfl, by decide +kernel⟩ rfl, ?_⟩
  refine List.forall_mem_cons.mpr ⟨ze_aload_n (k := 0) (by decide +kernel) rfl, ?_⟩
  refine List.forall_mem_cons.mpr ⟨ze_getI (by decide +kernel) fl_X12_202 rfl, ?_⟩
  refine List.forall_mem_cons.mpr ⟨ze_if_eq (off := 15) (by decide +kernel) (by decide), ?_⟩
  refine List.forall_mem_cons.mpr ⟨ze_iload_n (k := 1) (by decide +kernel) rfl, ?_⟩
  refine List.forall_mem_cons.mpr ⟨ze_i2l (by decide +kernel), ?_⟩
  refine List.forall_mem_cons.mpr ⟨ze_lconst (n := 0) (by decide +kernel) (by decide), ?_⟩
  refine List.forall_mem_cons.mpr ⟨ze_ldc2 (i := 391) (by decide +kernel) kc_X12_391, ?_⟩
  refine List.forall_mem_cons.mpr ⟨ze_callSF (idx := 148) (by decide +kernel) ml_X12_148 ms_X12_isIn, ?_⟩
  refine List.forall_mem_cons.mpr ⟨ze_if_ne (off := 5) (by decide +kernel) (by decide), ?_⟩
  refine List.forall_mem_cons.mpr ⟨ze_iconst (n := -1) (by decide +kernel) (by decide), ?_⟩
  refine List.forall_mem_cons.mpr ⟨ze_iret (by decide +kernel) rfl, ?_⟩
  refine List.forall_mem_cons.mpr ⟨ze_iload_n (k := 1) (by decide +kernel) rfl, ?_⟩
  refine List.forall_mem_cons.mpr ⟨ze_iconst (n := 2) (by decide +kernel) (by decide), ?_⟩
  refine List.forall_mem_cons.mpr ⟨ze_icmp_ne (off := 12) (by decide +kernel) (by decide), ?_⟩
  refine List.forall_mem_cons.mpr ⟨ze_aload_n (k := 0) (by decide +kernel) rfl, ?_⟩
  refine List.forall_mem_cons.mpr ⟨ze_getL (by decide +kernel) fl_X12_38 rfl (by decide), ?_⟩
  refine List.forall_mem_cons.mpr ⟨ze_iconst (n := 2) (by decide +kernel) (by decide), ?_⟩
  refine List.forall_mem_cons.mpr ⟨ze_iald (by decide +kernel), ?_⟩
  refine List.forall_mem_cons.mpr ⟨ze_goto (off := 24) (by decide +kernel) (by decide), ?_⟩
  refine List.forall_mem_cons.mpr ⟨ze_iload_n (k := 1) (by decide +kernel) rfl, ?_⟩
  refine List.forall_mem_cons.mpr ⟨ze_bipush (n := 11) (by decide +kernel) (by decide), ?_⟩
  refine List.forall_mem_cons.mpr ⟨ze_icmp_ne (off := 12) (by decide +kernel) (by decide), ?_⟩
  refine List.forall_mem_cons.mpr ⟨ze_aload_n (k := 0) (by decide +kernel) rfl, ?_⟩
  refine List.forall_mem_cons.mpr ⟨ze_getL (by decide +kernel) fl_X12_38 rfl (by decide), ?_⟩
  refine List.forall_mem_cons.mpr ⟨ze_iconst (n := 3) (by decide +kernel) (by decide), ?_⟩
  refine List.forall_mem_cons.mpr ⟨ze_iald (by decide +kernel), ?_⟩
  refine List.forall_mem_cons.mpr ⟨ze_goto (off := 9) (by decide +kernel) (by decide), ?_⟩
  refine List.forall_mem_cons.mpr ⟨ze_aload_n (k := 0) (by decide +kernel) rfl, ?_⟩
  refine List.forall_mem_cons.mpr ⟨ze_getL (by decide +kernel) fl_X12_17 rfl (by decide), ?_⟩
  refine List.forall_mem_cons.mpr ⟨ze_iload_n (k := 1) (by decide +kernel) rfl, ?_⟩
  refine List.forall_mem_cons.mpr ⟨ze_iald (by decide +kernel), ?_⟩
  refine List.forall_mem_cons.mpr ⟨ze_iret (by decide +kernel) rfl, ?_⟩
  exact fun _ h => absurd h List.not_mem_nil
theorem vX12_rule {l : Launch} {G : GT} {d : Nat} {av : List Value} {Q : Po} {σ : Mm} (cs : List (Nat × List Nat)) (k : Nat) (h : vc l G d mX12_rule TX12_rule Q cs k TX12_rule (lv_args 0 av) [] σ) (hlen : (lg_sl av).length ≤ mX12_rule.2.2.1 := by exact Nat.le_of_ble_eq_true rfl) : MW l G d mX12_rule av σ Q := mw_vc TX12_rule_ok mc_X12_rule rfl hlen cs k rfl h
theorem wX12_rule {l : Launch} {G : GT} {d : Nat} {Q : Po} {pc : Nat} {lv : Lv} {st : List Value} {σ : Mm} (cs : List (Nat × List Nat)) (k : Nat) (h : vc l G d mX12_rule TX12_rule Q cs k (drp TX12_rule pc) lv st σ) (hpc : hdp (drp TX12_rule pc) = pc := by rfl) : Wp l G d mX12_rule pc lv st σ Q := wp_vc TX12_rule_ok cs k hpc h
def TX12_rate : List In := [(0, 1, zt_aload 0), (1, 2, zt_ic 0), (2, 5, zt_putI 20 27), (5, 6, zt_aload 0), (6, 7, zt_aload 0), (7, 8, zt_iload 1), (8, 9, zt_iload 2), (9, 12, zt_callVF mX12_isNode 2 20), (12, 15, zt_if_eq 19), (15, 16, zt_ic 0), (16, 19, zt_goto 20), (19, 20, zt_ic 1), (20, 23, zt_putI 20 0), (23, 24, zt_aload 0), (24, 27, zt_getI 20 0), (27, 30, zt_if_le 34), (30, 31, zt_ic 0), (31, 34, zt_goto 44), (34, 35, zt_aload 0), (35, 36, zt_aload 0), (36, 39, zt_getL 20 20), (39, 40, zt_iload 1), (40, 41, zt_iload 2), (41, 44, zt_callVF mX12_rateOf 3 20), (44, 45, zt_iret)]
theorem TX12_rate_ok : ∀ i ∈ TX12_rate, Ent mX12_rate i := by
  refine List.forall_mem_cons.mpr ⟨ze_aload_n (k := 0) (by decide +kernel) rfl, ?_⟩
  refine List.forall_mem_cons.mpr ⟨ze_iconst (n := 0) (by decide +kernel) (by decide), ?_⟩
  refine List.forall_mem_cons.mpr ⟨ze_putI (by decide +kernel) fl_X12_234 ⟨_, _, _, rfl, rfl, by decide +kernel⟩ rfl, ?_⟩
  refine List.forall_mem_cons.mpr ⟨ze_aload_n (k := 0) (by decide +kernel) rfl, ?_⟩
  refine List.forall_mem_cons.mpr ⟨ze_aload_n (k := 0) (by decide +kernel) rfl, ?_⟩
  refine List.forall_mem_cons.mpr ⟨ze_iload_n (k := 1) (by decide +kernel) rfl, ?_⟩
  refine List.forall_mem_cons.mpr ⟨ze_iload_n (k := 2) (by decide +kernel) rfl, ?_⟩
  refine List.forall_mem_cons.mpr ⟨ze_callVF (idx := 206) (by decide +kernel) ml_X12_206 mv_X12_isNode rfl, ?_⟩
  refine List.forall_mem_cons.mpr ⟨ze_if_eq (off := 7) (by decide +kernel) (by decide), ?_⟩
  refine List.forall_mem_cons.mpr ⟨ze_iconst (n := 0) (by decide +kernel) (by decide), ?_⟩
  refine List.forall_mem_cons.mpr ⟨ze_goto (off := 4) (by decide +kernel) (by decide), ?_⟩
  refine List.forall_mem_cons.mpr ⟨ze_iconst (n := 1) (by decide +kernel) (by decide), ?_⟩
  refine List.forall_mem_cons.mpr ⟨ze_putI (by decide +kernel) fl_X12_82 ⟨_, _, _, rfl, rfl, by decide +kernel⟩ rfl, ?_⟩
  refine List.forall_mem_cons.mpr ⟨ze_aload_n (k := 0) (by decide +kernel) rfl, ?_⟩
  refine List.forall_mem_cons.mpr ⟨ze_getI (by decide +kernel) fl_X12_82 rfl, ?_⟩
  refine List.forall_mem_cons.mpr ⟨ze_if_le (off := 7) (by decide +kernel) (by decide), ?_⟩
  refine List.forall_mem_cons.mpr ⟨ze_iconst (n := 0) (by decide +kernel) (by decide), ?_⟩
  refine List.forall_mem_cons.mpr ⟨ze_goto (off := 13) (by decide +kernel) (by decide), ?_⟩
  refine List.forall_mem_cons.mpr ⟨ze_aload_n (k := 0) (by decide +kernel) rfl, ?_⟩
  refine List.forall_mem_cons.mpr ⟨ze_aload_n (k := 0) (by decide +kernel) rfl, ?_⟩
  refine List.forall_mem_cons.mpr ⟨ze_getL (by decide +kernel) fl_X12_38 rfl (by decide), ?_⟩
  refine List.forall_mem_cons.mpr ⟨ze_iload_n (k := 1) (by decide +kernel) rfl, ?_⟩
  refine List.forall_mem_cons.mpr ⟨ze_iload_n (k := 2) (by decide +kernel) rfl, ?_⟩
  refine List.forall_mem_cons.mpr ⟨ze_callVF (idx := 237) (by decide +kernel) ml_X12_237 mv_X12_rateOf rfl, ?_⟩
  refine List.forall_mem_cons.mpr ⟨ze_iret (by decide +kernel) rfl, ?_⟩
  exact fun _ h => absurd h List.not_mem_nil
theorem vX12_rate {l : Launch} {G : GT} {d : Nat} {av : List Value} {Q : Po} {σ : Mm} (cs : List (Nat × List Nat)) (k : Nat) (h : vc l G d mX12_rate TX12_rate Q cs k TX12_rate (lv_args 0 av) [] σ) (hlen : (lg_sl av).length ≤ mX12_rate.2.2.1 := by exact Nat.le_of_ble_eq_true rfl) : MW l G d mX12_rate av σ Q := mw_vc TX12_rate_ok mc_X12_rate rfl hlen cs k rfl h
theorem wX12_rate {l : Launch} {G : GT} {d : Nat} {Q : Po} {pc : Nat} {lv : Lv} {st : List Value} {σ : Mm} (cs : List (Nat × List Nat)) (k : Nat) (h : vc l G d mX12_rate TX12_rate Q cs k (drp TX12_rate pc) lv st σ) (hpc : hdp (drp TX12_rate pc) = pc := by rfl) : Wp l G d mX12_rate pc lv st σ Q := wp_vc TX12_rate_ok cs k hpc h
def TX12_year : List In := [(0, 1, zt_aload 0), (1, 2, zt_ic 0), (2, 5, zt_putI 20 0), (5, 6, zt_aload 0), (6, 9, zt_getI 20 17), (9, 12, zt_if_eq 49), (12, 13, zt_iload 1), (13, 14, zt_i2l), (14, 15, zt_iload 2), (15, 16, zt_ic 3), (16, 19, zt_icmp_ge 23), (19, 20, zt_lc 1), (20, 23, zt_goto 24), (23, 24, zt_lc 0), (24, 25, zt_aload 0), (25, 28, zt_getL 20 6), (28, 29, zt_ic 1), (29, 30, zt_iald), (30, 31, zt_i2l), (31, 34, zt_callSF mX12_isIn 3), (34, 37, zt_if_eq 49), (37, 38, zt_iload 2), (38, 39, zt_i2l), (39, 40, zt_lc 0), (40, 43, zt_lc (4 : Int64)), (43, 46, zt_callSF mX12_isIn 3), (46, 49, zt_if_ne 51), (49, 50, zt_ic (-1)), (50, 51, zt_iret), (51, 52, zt_aload 0), (52, 53, zt_aload 0), (53, 56, zt_getL 20 20), (56, 59, zt_callVF mX12_laysYears 1 20), (59, 60, zt_iload 2), (60, 92, zt_tsw 0 3 [92, 99, 111, 123] 130), (92, 93, zt_aload 0), (93, 96, zt_getL 20 29), (96, 97, zt_iload 1), (97, 98, zt_iald), (98, 99, zt_iret), (99, 100, zt_aload 0), (100, 101, zt_aload 0), (101, 104, zt_getL 20 20), (104, 105, zt_ic 2), (105, 106, zt_iald), (106, 107, zt_iload 1), (107, 110, zt_callVF mX12_interest 2 20), (110, 111, zt_iret), (111, 112, zt_aload 0), (112, 113, zt_aload 0), (113, 116, zt_getL 20 20), (116, 117, zt_ic 2), (117, 118, zt_iald), (118, 119, zt_iload 1), (119, 122, zt_callVF mX12_due 2 20), (122, 123, zt_iret), (123, 124, zt_aload 0), (124, 127, zt_getL 20 28), (127, 128, zt_iload 1), (128, 129, zt_iald), (129, 130, zt_iret), (130, 131, zt_aload 0), (131, 134, zt_getL 20 30), (134, 135, zt_iload 1), (135, 136, zt_iald), (136, 137, zt_iret)]
theorem TX12_year_ok : ∀ i ∈ TX12_year, Ent mX12_year i := by
  refine List.forall_mem_cons.mpr ⟨ze_aload_n (k := 0) (by decide +kernel) rfl, ?_⟩
  refine List.forall_mem_cons.mpr ⟨ze_iconst (n := 0) (by decide +kernel) (by decide), ?_⟩
  refine List.forall_mem_cons.mpr ⟨ze_putI (by decide +kernel) fl_X12_82 ⟨_, _, _, rfl, rfl, by decide +kernel⟩ rfl, ?_⟩
  refine List.forall_mem_cons.mpr ⟨ze_aload_n (k := 0) (by decide +kernel) rfl, ?_⟩
  refine List.forall_mem_cons.mpr ⟨ze_getI (by decide +kernel) fl_X12_202 rfl, ?_⟩
  refine List.forall_mem_cons.mpr ⟨ze_if_eq (off := 40) (by decide +kernel) (by decide), ?_⟩
  refine List.forall_mem_cons.mpr ⟨ze_iload_n (k := 1) (by decide +kernel) rfl, ?_⟩
  refine List.forall_mem_cons.mpr ⟨ze_i2l (by decide +kernel), ?_⟩
  refine List.forall_mem_cons.mpr ⟨ze_iload_n (k := 2) (by decide +kernel) rfl, ?_⟩
  refine List.forall_mem_cons.mpr ⟨ze_iconst (n := 3) (by decide +kernel) (by decide), ?_⟩
  refine List.forall_mem_cons.mpr ⟨ze_icmp_ge (off := 7) (by decide +kernel) (by decide), ?_⟩
  refine List.forall_mem_cons.mpr ⟨ze_lconst (n := 1) (by decide +kernel) (by decide), ?_⟩
  refine List.forall_mem_cons.mpr ⟨ze_goto (off := 4) (by decide +kernel) (by decide), ?_⟩
  refine List.forall_mem_cons.mpr ⟨ze_lconst (n := 0) (by decide +kernel) (by decide), ?_⟩
  refine List.forall_mem_cons.mpr ⟨ze_aload_n (k := 0) (by decide +kernel) rfl, ?_⟩
  refine List.forall_mem_cons.mpr ⟨ze_getL (by decide +kernel) fl_X12_17 rfl (by decide), ?_⟩
  refine List.forall_mem_cons.mpr ⟨ze_iconst (n := 1) (by decide +kernel) (by decide), ?_⟩
  refine List.forall_mem_cons.mpr ⟨ze_iald (by decide +kernel), ?_⟩
  refine List.forall_mem_cons.mpr ⟨ze_i2l (by decide +kernel), ?_⟩
  refine List.forall_mem_cons.mpr ⟨ze_callSF (idx := 148) (by decide +kernel) ml_X12_148 ms_X12_isIn, ?_⟩
  refine List.forall_mem_cons.mpr ⟨ze_if_eq (off := 15) (by decide +kernel) (by decide), ?_⟩
  refine List.forall_mem_cons.mpr ⟨ze_iload_n (k := 2) (by decide +kernel) rfl, ?_⟩
  refine List.forall_mem_cons.mpr ⟨ze_i2l (by decide +kernel), ?_⟩
  refine List.forall_mem_cons.mpr ⟨ze_lconst (n := 0) (by decide +kernel) (by decide), ?_⟩
  refine List.forall_mem_cons.mpr ⟨ze_ldc2 (i := 393) (by decide +kernel) kc_X12_393, ?_⟩
  refine List.forall_mem_cons.mpr ⟨ze_callSF (idx := 148) (by decide +kernel) ml_X12_148 ms_X12_isIn, ?_⟩
  refine List.forall_mem_cons.mpr ⟨ze_if_ne (off := 5) (by decide +kernel) (by decide), ?_⟩
  refine List.forall_mem_cons.mpr ⟨ze_iconst (n := -1) (by decide +kernel) (by decide), ?_⟩
  refine List.forall_mem_cons.mpr ⟨ze_iret (by decide +kernel) rfl, ?_⟩
  refine List.forall_mem_cons.mpr ⟨ze_aload_n (k := 0) (by decide +kernel) rfl, ?_⟩
  refine List.forall_mem_cons.mpr ⟨ze_aload_n (k := 0) (by decide +kernel) rfl, ?_⟩
  refine List.forall_mem_cons.mpr ⟨ze_getL (by decide +kernel) fl_X12_38 rfl (by decide), ?_⟩
  refine List.forall_mem_cons.mpr ⟨ze_callVF (idx := 289) (by decide +kernel) ml_X12_289 mv_X12_laysYears rfl, ?_⟩
  refine List.forall_mem_cons.mpr ⟨ze_iload_n (k := 2) (by decide +kernel) rfl, ?_⟩
  refine List.forall_mem_cons.mpr ⟨ze_tsw (len := 32) (df0 := 70) (offs := #[32, 39, 51, 63]) (by decide +kernel) (by decide) (by decide +kernel) (by decide), ?_⟩
  refine List.forall_mem_cons.mpr ⟨ze_aload_n (k := 0) (by decide +kernel) rfl, ?_⟩
  refine List.forall_mem_cons.mpr ⟨ze_getL (by decide +kernel) fl_X12_53 rfl (by decide), ?_⟩
  refine List.forall_mem_cons.mpr ⟨ze_iload_n (k := 1) (by decide +kernel) rfl, ?_⟩
  refine List.forall_mem_cons.mpr ⟨ze_iald (by decide +kernel), ?_⟩
  refine List.forall_mem_cons.mpr ⟨ze_iret (by decide +kernel) rfl, ?_⟩
  refine List.forall_mem_cons.mpr ⟨ze_aload_n (k := 0) (by decide +kernel) rfl, ?_⟩
  refine List.forall_mem_cons.mpr ⟨ze_aload_n (k := 0) (by decide +kernel) rfl, ?_⟩
  refine List.forall_mem_cons.mpr ⟨ze_getL (by decide +kernel) fl_X12_38 rfl (by decide), ?_⟩
  refine List.forall_mem_cons.mpr ⟨ze_iconst (n := 2) (by decide +kernel) (by decide), ?_⟩
  refine List.forall_mem_cons.mpr ⟨ze_iald (by decide +kernel), ?_⟩
  refine List.forall_mem_cons.mpr ⟨ze_iload_n (k := 1) (by decide +kernel) rfl, ?_⟩
  refine List.forall_mem_cons.mpr ⟨ze_callVF (idx := 241) (by decide +kernel) ml_X12_241 mv_X12_interest rfl, ?_⟩
  refine List.forall_mem_cons.mpr ⟨ze_iret (by decide +kernel) rfl, ?_⟩
  refine List.forall_mem_cons.mpr ⟨ze_aload_n (k := 0) (by decide +kernel) rfl, ?_⟩
  refine List.forall_mem_cons.mpr ⟨ze_aload_n (k := 0) (by decide +kernel) rfl, ?_⟩
  refine List.forall_mem_cons.mpr ⟨ze_getL (by decide +kernel) fl_X12_38 rfl (by decide), ?_⟩
  refine List.forall_mem_cons.mpr ⟨ze_iconst (n := 2) (by decide +kernel) (by decide), ?_⟩
  refine List.forall_mem_cons.mpr ⟨ze_iald (by decide +kernel), ?_⟩
  refine List.forall_mem_cons.mpr ⟨ze_iload_n (k := 1) (by decide +kernel) rfl, ?_⟩
  refine List.forall_mem_cons.mpr ⟨ze_callVF (idx := 250) (by decide +kernel) ml_X12_250 mv_X12_due rfl, ?_⟩
  refine List.forall_mem_cons.mpr ⟨ze_iret (by decide +kernel) rfl, ?_⟩
  refine List.forall_mem_cons.mpr ⟨ze_aload_n (k := 0) (by decide +kernel) rfl, ?_⟩
  refine List.forall_mem_cons.mpr ⟨ze_getL (by decide +kernel) fl_X12_50 rfl (by decide), ?_⟩
  refine List.forall_mem_cons.mpr ⟨ze_iload_n (k := 1) (by decide +kernel) rfl, ?_⟩
  refine List.forall_mem_cons.mpr ⟨ze_iald (by decide +kernel), ?_⟩
  refine List.forall_mem_cons.mpr ⟨ze_iret (by decide +kernel) rfl, ?_⟩
  refine List.forall_mem_cons.mpr ⟨ze_aload_n (k := 0) (by decide +kernel) rfl, ?_⟩
  refine List.forall_mem_cons.mpr ⟨ze_getL (by decide +kernel) fl_X12_56 rfl (by decide), ?_⟩
  refine List.forall_mem_cons.mpr ⟨ze_iload_n (k := 1) (by decide +kernel) rfl, ?_⟩
  refine List.forall_mem_cons.mpr ⟨ze_iald (by decide +kernel), ?_⟩
  refine List.forall_mem_cons.mpr ⟨ze_iret (by decide +kernel) rfl, ?_⟩
  exact fun _ h => absurd h List.not_mem_nil
theorem vX12_year {l : Launch} {G : GT} {d : Nat} {av : List Value} {Q : Po} {σ : Mm} (cs : List (Nat × List Nat)) (k : Nat) (h : vc l G d mX12_year TX12_year Q cs k TX12_year (lv_args 0 av) [] σ) (hlen : (lg_sl av).length ≤ mX12_year.2.2.1 := by exact Nat.le_of_ble_eq_true rfl) : MW l G d mX12_year av σ Q := mw_vc TX12_year_ok mc_X12_year rfl hlen cs k rfl h
theorem wX12_year {l : Launch} {G : GT} {d : Nat} {Q : Po} {pc : Nat} {lv : Lv} {st : List Value} {σ : Mm} (cs : List (Nat × List Nat)) (k : Nat) (h : vc l G d mX12_year TX12_year Q cs k (drp TX12_year pc) lv st σ) (hpc : hdp (drp TX12_year pc) = pc := by rfl) : Wp l G d mX12_year pc lv st σ Q := wp_vc TX12_year_ok cs k hpc h
def TX12_costs : List In := [(0, 1, zt_aload 0), (1, 2, zt_ic 0), (2, 5, zt_putI 20 0), (5, 6, zt_iload 3), (6, 7, zt_i2l), (7, 8, zt_lc 0), (8, 11, zt_lc (3 : Int64)), (11, 14, zt_callSF mX12_isIn 3), (14, 17, zt_if_ne 21), (17, 20, zt_lc (-1000000 : Int64)), (20, 21, zt_lret), (21, 22, zt_aload 0), (22, 23, zt_iload 1), (23, 24, zt_iload 2), (24, 27, zt_callVF mX12_isNode 2 20), (27, 30, zt_if_eq 52), (30, 31, zt_iload 3), (31, 32, zt_ic 1), (32, 35, zt_icmp_le 56), (35, 36, zt_aload 0), (36, 37, zt_iload 3), (37, 38, zt_ic 1), (38, 39, zt_isub), (39, 40, zt_aload 0), (40, 43, zt_getL 20 20), (43, 44, zt_ic 3), (44, 45, zt_iald), (45, 46, zt_iload 1), (46, 49, zt_callVF mX12_may 3 20), (49, 52, zt_if_ne 56), (52, 55, zt_lc (-1 : Int64)), (55, 56, zt_lret), (56, 57, zt_aload 0), (57, 60, zt_callVF mX12_laysNow 0 20), (60, 61, zt_iload 3), (61, 64, zt_if_ne 84), (64, 65, zt_aload 0), (65, 68, zt_getL 20 31), (68, 69, zt_aload 0), (69, 72, zt_getL 20 20), (72, 73, zt_ic 3), (73, 74, zt_iald), (74, 75, zt_ic 0), (75, 76, zt_iload 1), (76, 77, zt_iload 2), (77, 80, zt_callSF mX12_cell 4), (80, 81, zt_lald), (81, 84, zt_goto 114), (84, 85, zt_aload 0), (85, 86, zt_aload 0), (86, 89, zt_getL 20 20), (89, 90, zt_aload 0), (90, 93, zt_getL 20 31), (93, 94, zt_iload 3), (94, 95, zt_ic 1), (95, 96, zt_isub), (96, 97, zt_aload 0), (97, 100, zt_getL 20 20), (100, 101, zt_ic 3), (101, 102, zt_iald), (102, 103, zt_ic 0), (103, 104, zt_aload 0), (104, 107, zt_getL 20 20), (107, 108, zt_ic 2), (108, 109, zt_iald), (109, 110, zt_iload 1), (110, 111, zt_iload 2), (111, 114, zt_callVF mX12_costBy 8 20), (114, 115, zt_lret)]
theorem TX12_costs_ok : ∀ i ∈ TX12_costs, Ent mX12_costs i := by
  refine List.forall_mem_cons.mpr ⟨ze_aload_n (k := 0) (by decide +kernel) rfl, ?_⟩
  refine List.forall_mem_cons.mpr ⟨ze_iconst (n := 0) (by decide +kernel) (by decide), ?_⟩
  refine List.forall_mem_cons.mpr ⟨ze_putI (by decide +kernel) fl_X12_82 ⟨_, _, _, rfl, rfl, by decide +kernel⟩ rfl, ?_⟩
  refine List.forall_mem_cons.mpr ⟨ze_iload_n (k := 3) (by decide +kernel) rfl, ?_⟩
  refine List.forall_mem_cons.mpr ⟨ze_i2l (by decide +kernel), ?_⟩
  refine List.forall_mem_cons.mpr ⟨ze_lconst (n := 0) (by decide +kernel) (by decide), ?_⟩
  refine List.forall_mem_cons.mpr ⟨ze_ldc2 (i := 388) (by decide +kernel) kc_X12_388, ?_⟩
  refine List.forall_mem_cons.mpr ⟨ze_callSF (idx := 148) (by decide +kernel) ml_X12_148 ms_X12_isIn, ?_⟩
  refine List.forall_mem_cons.mpr ⟨ze_if_ne (off := 7) (by decide +kernel) (by decide), ?_⟩
  refine List.forall_mem_cons.mpr ⟨ze_ldc2 (i := 395) (by decide +kernel) kc_X12_395, ?_⟩
  refine List.forall_mem_cons.mpr ⟨ze_lret (by decide +kernel) rfl, ?_⟩
  refine List.forall_mem_cons.mpr ⟨ze_aload_n (k := 0) (by decide +kernel) rfl, ?_⟩
  refine List.forall_mem_cons.mpr ⟨ze_iload_n (k := 1) (by decide +kernel) rfl, ?_⟩
  refine List.forall_mem_cons.mpr ⟨ze_iload_n (k := 2) (by decide +kernel) rfl, ?_⟩
  refine List.forall_mem_cons.mpr ⟨ze_callVF (idx := 206) (by decide +kernel) ml_X12_206 mv_X12_isNode rfl, ?_⟩
  refine List.forall_mem_cons.mpr ⟨ze_if_eq (off := 25) (by decide +kernel) (by decide), ?_⟩
  refine List.forall_mem_cons.mpr ⟨ze_iload_n (k := 3) (by decide +kernel) rfl, ?_⟩
  refine List.forall_mem_cons.mpr ⟨ze_iconst (n := 1) (by decide +kernel) (by decide), ?_⟩
  refine List.forall_mem_cons.mpr ⟨ze_icmp_le (off := 24) (by decide +kernel) (by decide), ?_⟩
  refine List.forall_mem_cons.mpr ⟨ze_aload_n (k := 0) (by decide +kernel) rfl, ?_⟩
  refine List.forall_mem_cons.mpr ⟨ze_iload_n (k := 3) (by decide +kernel) rfl, ?_⟩
  refine List.forall_mem_cons.mpr ⟨ze_iconst (n := 1) (by decide +kernel) (by decide), ?_⟩
  refine List.forall_mem_cons.mpr ⟨ze_isub (by decide +kernel), ?_⟩
  refine List.forall_mem_cons.mpr ⟨ze_aload_n (k := 0) (by decide +kernel) rfl, ?_⟩
  refine List.forall_mem_cons.mpr ⟨ze_getL (by decide +kernel) fl_X12_38 rfl (by decide), ?_⟩
  refine List.forall_mem_cons.mpr ⟨ze_iconst (n := 3) (by decide +kernel) (by decide), ?_⟩
  refine List.forall_mem_cons.mpr ⟨ze_iald (by decide +kernel), ?_⟩
  refine List.forall_mem_cons.mpr ⟨ze_iload_n (k := 1) (by decide +kernel) rfl, ?_⟩
  refine List.forall_mem_cons.mpr ⟨ze_callVF (idx := 277) (by decide +kernel) ml_X12_277 mv_X12_may rfl, ?_⟩
  refine List.forall_mem_cons.mpr ⟨ze_if_ne (off := 7) (by decide +kernel) (by decide), ?_⟩
  refine List.forall_mem_cons.mpr ⟨ze_ldc2 (i := 397) (by decide +kernel) kc_X12_397, ?_⟩
  refine List.forall_mem_cons.mpr ⟨ze_lret (by decide +kernel) rfl, ?_⟩
  refine List.forall_mem_cons.mpr ⟨ze_aload_n (k := 0) (by decide +kernel) rfl, ?_⟩
  refine List.forall_mem_cons.mpr ⟨ze_callVF (idx := 399) (by decide +kernel) ml_X12_399 mv_X12_laysNow rfl, ?_⟩
  refine List.forall_mem_cons.mpr ⟨ze_iload_n (k := 3) (by decide +kernel) rfl, ?_⟩
  refine List.forall_mem_cons.mpr ⟨ze_if_ne (off := 23) (by decide +kernel) (by decide), ?_⟩
  refine List.forall_mem_cons.mpr ⟨ze_aload_n (k := 0) (by decide +kernel) rfl, ?_⟩
  refine List.forall_mem_cons.mpr ⟨ze_getL (by decide +kernel) fl_X12_60 rfl (by decide), ?_⟩
  refine List.forall_mem_cons.mpr ⟨ze_aload_n (k := 0) (by decide +kernel) rfl, ?_⟩
  refine List.forall_mem_cons.mpr ⟨ze_getL (by decide +kernel) fl_X12_38 rfl (by decide), ?_⟩
  refine List.forall_mem_cons.mpr ⟨ze_iconst (n := 3) (by decide +kernel) (by decide), ?_⟩
  refine List.forall_mem_cons.mpr ⟨ze_iald (by decide +kernel), ?_⟩
  refine List.forall_mem_cons.mpr ⟨ze_iconst (n := 0) (by decide +kernel) (by decide), ?_⟩
  refine List.forall_mem_cons.mpr ⟨ze_iload_n (k := 1) (by decide +kernel) rfl, ?_⟩
  refine List.forall_mem_cons.mpr ⟨ze_iload_n (k := 2) (by decide +kernel) rfl, ?_⟩
  refine List.forall_mem_cons.mpr ⟨ze_callSF (idx := 246) (by decide +kernel) ml_X12_246 ms_X12_cell, ?_⟩
  refine List.forall_mem_cons.mpr ⟨ze_lald (by decide +kernel), ?_⟩
  refine List.forall_mem_cons.mpr ⟨ze_goto (off := 33) (by decide +kernel) (by decide), ?_⟩
  refine List.forall_mem_cons.mpr ⟨ze_aload_n (k := 0) (by decide +kernel) rfl, ?_⟩
  refine List.forall_mem_cons.mpr ⟨ze_aload_n (k := 0) (by decide +kernel) rfl, ?_⟩
  refine List.forall_mem_cons.mpr ⟨ze_getL (by decide +kernel) fl_X12_38 rfl (by decide), ?_⟩
  refine List.forall_mem_cons.mpr ⟨ze_aload_n (k := 0) (by decide +kernel) rfl, ?_⟩
  refine List.forall_mem_cons.mpr ⟨ze_getL (by decide +kernel) fl_X12_60 rfl (by decide), ?_⟩
  refine List.forall_mem_cons.mpr ⟨ze_iload_n (k := 3) (by decide +kernel) rfl, ?_⟩
  refine List.forall_mem_cons.mpr ⟨ze_iconst (n := 1) (by decide +kernel) (by decide), ?_⟩
  refine List.forall_mem_cons.mpr ⟨ze_isub (by decide +kernel), ?_⟩
  refine List.forall_mem_cons.mpr ⟨ze_aload_n (k := 0) (by decide +kernel) rfl, ?_⟩
  refine List.forall_mem_cons.mpr ⟨ze_getL (by decide +kernel) fl_X12_38 rfl (by decide), ?_⟩
  refine List.forall_mem_cons.mpr ⟨ze_iconst (n := 3) (by decide +kernel) (by decide), ?_⟩
  refine List.forall_mem_cons.mpr ⟨ze_iald (by decide +kernel), ?_⟩
  refine List.forall_mem_cons.mpr ⟨ze_iconst (n := 0) (by decide +kernel) (by decide), ?_⟩
  refine List.forall_mem_cons.mpr ⟨ze_aload_n (k := 0) (by decide +kernel) rfl, ?_⟩
  refine List.forall_mem_cons.mpr ⟨ze_getL (by decide +kernel) fl_X12_38 rfl (by decide), ?_⟩
  refine List.forall_mem_cons.mpr ⟨ze_iconst (n := 2) (by decide +kernel) (by decide), ?_⟩
  refine List.forall_mem_cons.mpr ⟨ze_iald (by decide +kernel), ?_⟩
  refine List.forall_mem_cons.mpr ⟨ze_iload_n (k := 1) (by decide +kernel) rfl, ?_⟩
  refine List.forall_mem_cons.mpr ⟨ze_iload_n (k := 2) (by decide +kernel) rfl, ?_⟩
  refine List.forall_mem_cons.mpr ⟨ze_callVF (idx := 273) (by decide +kernel) ml_X12_273 mv_X12_costBy rfl, ?_⟩
  refine List.forall_mem_cons.mpr ⟨ze_lret (by decide +kernel) rfl, ?_⟩
  exact fun _ h => absurd h List.not_mem_nil
theorem vX12_costs {l : Launch} {G : GT} {d : Nat} {av : List Value} {Q : Po} {σ : Mm} (cs : List (Nat × List Nat)) (k : Nat) (h : vc l G d mX12_costs TX12_costs Q cs k TX12_costs (lv_args 0 av) [] σ) (hlen : (lg_sl av).length ≤ mX12_costs.2.2.1 := by exact Nat.le_of_ble_eq_true rfl) : MW l G d mX12_costs av σ Q := mw_vc TX12_costs_ok mc_X12_costs rfl hlen cs k rfl h
theorem wX12_costs {l : Launch} {G : GT} {d : Nat} {Q : Po} {pc : Nat} {lv : Lv} {st : List Value} {σ : Mm} (cs : List (Nat × List Nat)) (k : Nat) (h : vc l G d mX12_costs TX12_costs Q cs k (drp TX12_costs pc) lv st σ) (hpc : hdp (drp TX12_costs pc) = pc := by rfl) : Wp l G d mX12_costs pc lv st σ Q := wp_vc TX12_costs_ok cs k hpc h
def TX12_best : List In := [(0, 1, zt_aload 0), (1, 2, zt_ic 0), (2, 5, zt_putI 20 0), (5, 6, zt_aload 0), (6, 7, zt_iload 1), (7, 8, zt_iload 2), (8, 11, zt_callVF mX12_isNode 2 20), (11, 14, zt_if_ne 16), (14, 15, zt_ic (-1)), (15, 16, zt_iret), (16, 17, zt_aload 0), (17, 20, zt_callVF mX12_laysNow 0 20), (20, 21, zt_aload 0), (21, 22, zt_aload 0), (22, 25, zt_getL 20 20), (25, 26, zt_aload 0), (26, 29, zt_getL 20 31), (29, 30, zt_aload 0), (30, 33, zt_getL 20 20), (33, 34, zt_ic 3), (34, 35, zt_iald), (35, 36, zt_ic 0), (36, 37, zt_aload 0), (37, 40, zt_getL 20 20), (40, 41, zt_ic 2), (41, 42, zt_iald), (42, 43, zt_iload 1), (43, 44, zt_iload 2), (44, 47, zt_callVF mX12_bestDeed 7 20), (47, 48, zt_iret)]
theorem TX12_best_ok : ∀ i ∈ TX12_best, Ent mX12_best i := by
  refine List.forall_mem_cons.mpr ⟨ze_aload_n (k := 0) (by decide +kernel) rfl, ?_⟩
  refine List.forall_mem_cons.mpr ⟨ze_iconst (n := 0) (by decide +kernel) (by decide), ?_⟩
  refine List.forall_mem_cons.mpr ⟨ze_putI (by decide +kernel) fl_X12_82 ⟨_, _, _, rfl, rfl, by decide +kernel⟩ rfl, ?_⟩
  refine List.forall_mem_cons.mpr ⟨ze_aload_n (k := 0) (by decide +kernel) rfl, ?_⟩
  refine List.forall_mem_cons.mpr ⟨ze_iload_n (k := 1) (by decide +kernel) rfl, ?_⟩
  refine List.forall_mem_cons.mpr ⟨ze_iload_n (k := 2) (by decide +kernel) rfl, ?_⟩
  refine List.forall_mem_cons.mpr ⟨ze_callVF (idx := 206) (by decide +kernel) ml_X12_206 mv_X12_isNode rfl, ?_⟩
  refine List.forall_mem_cons.mpr ⟨ze_if_ne (off := 5) (by decide +kernel) (by decide), ?_⟩
  refine List.forall_mem_cons.mpr ⟨ze_iconst (n := -1) (by decide +kernel) (by decide), ?_⟩
  refine List.forall_mem_cons.mpr ⟨ze_iret (by decide +kernel) rfl, ?_⟩
  refine List.forall_mem_cons.mpr ⟨ze_aload_n (k := 0) (by decide +kernel) rfl, ?_⟩
  refine List.forall_mem_cons.mpr ⟨ze_callVF (idx := 399) (by decide +kernel) ml_X12_399 mv_X12_laysNow rfl, ?_⟩
  refine List.forall_mem_cons.mpr ⟨ze_aload_n (k := 0) (by decide +kernel) rfl, ?_⟩
  refine List.forall_mem_cons.mpr ⟨ze_aload_n (k := 0) (by decide +kernel) rfl, ?_⟩
  refine List.forall_mem_cons.mpr ⟨ze_getL (by decide +kernel) fl_X12_38 rfl (by decide), ?_⟩
  refine List.forall_mem_cons.mpr ⟨ze_aload_n (k := 0) (by decide +kernel) rfl, ?_⟩
  refine List.forall_mem_cons.mpr ⟨ze_getL (by decide +kernel) fl_X12_60 rfl (by decide), ?_⟩
  refine List.forall_mem_cons.mpr ⟨ze_aload_n (k := 0) (by decide +kernel) rfl, ?_⟩
  refine List.forall_mem_cons.mpr ⟨ze_getL (by decide +kernel) fl_X12_38 rfl (by decide), ?_⟩
  refine List.forall_mem_cons.mpr ⟨ze_iconst (n := 3) (by decide +kernel) (by decide), ?_⟩
  refine List.forall_mem_cons.mpr ⟨ze_iald (by decide +kernel), ?_⟩
  refine List.forall_mem_cons.mpr ⟨ze_iconst (n := 0) (by decide +kernel) (by decide), ?_⟩
  refine List.forall_mem_cons.mpr ⟨ze_aload_n (k := 0) (by decide +kernel) rfl, ?_⟩
  refine List.forall_mem_cons.mpr ⟨ze_getL (by decide +kernel) fl_X12_38 rfl (by decide), ?_⟩
  refine List.forall_mem_cons.mpr ⟨ze_iconst (n := 2) (by decide +kernel) (by decide), ?_⟩
  refine List.forall_mem_cons.mpr ⟨ze_iald (by decide +kernel), ?_⟩
  refine List.forall_mem_cons.mpr ⟨ze_iload_n (k := 1) (by decide +kernel) rfl, ?_⟩
  refine List.forall_mem_cons.mpr ⟨ze_iload_n (k := 2) (by decide +kernel) rfl, ?_⟩
  refine List.forall_mem_cons.mpr ⟨ze_callVF (idx := 285) (by decide +kernel) ml_X12_285 mv_X12_bestDeed rfl, ?_⟩
  refine List.forall_mem_cons.mpr ⟨ze_iret (by decide +kernel) rfl, ?_⟩
  exact fun _ h => absurd h List.not_mem_nil
theorem vX12_best {l : Launch} {G : GT} {d : Nat} {av : List Value} {Q : Po} {σ : Mm} (cs : List (Nat × List Nat)) (k : Nat) (h : vc l G d mX12_best TX12_best Q cs k TX12_best (lv_args 0 av) [] σ) (hlen : (lg_sl av).length ≤ mX12_best.2.2.1 := by exact Nat.le_of_ble_eq_true rfl) : MW l G d mX12_best av σ Q := mw_vc TX12_best_ok mc_X12_best rfl hlen cs k rfl h
theorem wX12_best {l : Launch} {G : GT} {d : Nat} {Q : Po} {pc : Nat} {lv : Lv} {st : List Value} {σ : Mm} (cs : List (Nat × List Nat)) (k : Nat) (h : vc l G d mX12_best TX12_best Q cs k (drp TX12_best pc) lv st σ) (hpc : hdp (drp TX12_best pc) = pc := by rfl) : Wp l G d mX12_best pc lv st σ Q := wp_vc TX12_best_ok cs k hpc h
def TX12_walkActs : List In := [(0, 1, zt_aload 0), (1, 4, zt_getL 20 37), (4, 6, zt_ic 6), (6, 7, zt_iald), (7, 10, zt_if_ne 23), (10, 11, zt_aload 0), (11, 14, zt_getL 20 37), (14, 15, zt_ic 4), (15, 16, zt_iald), (16, 19, zt_if_ne 23), (19, 20, zt_ic 1), (20, 23, zt_goto 24), (23, 24, zt_ic 0), (24, 25, zt_istoreF 1), (25, 26, zt_iload 1), (26, 29, zt_if_eq 118), (29, 30, zt_aload 0), (30, 31, zt_aload 0), (31, 34, zt_getL 20 37), (34, 35, zt_aload 0), (35, 38, zt_getL 20 31), (38, 39, zt_aload 0), (39, 42, zt_getL 20 37), (42, 43, zt_ic 3), (43, 44, zt_iald), (44, 45, zt_aload 0), (45, 48, zt_getI 20 38), (48, 49, zt_aload 0), (49, 52, zt_getL 20 37), (52, 53, zt_ic 2), (53, 54, zt_iald), (54, 55, zt_aload 0), (55, 58, zt_getL 20 37), (58, 59, zt_ic 0), (59, 60, zt_iald), (60, 61, zt_aload 0), (61, 64, zt_getL 20 37), (64, 65, zt_ic 1), (65, 66, zt_iald), (66, 69, zt_callVF mX12_bestDeed 7 20), (69, 70, zt_istoreF 2), (70, 71, zt_iload 2), (71, 74, zt_if_eq 78), (74, 75, zt_ic 1), (75, 78, zt_goto 79), (78, 79, zt_ic 0), (79, 80, zt_istoreF 1), (80, 81, zt_iload 1), (81, 84, zt_if_ne 85), (84, 85, zt_vret), (85, 86, zt_aload 0), (86, 87, zt_iload 2), (87, 90, zt_callVF mX12_walkGives 1 20), (90, 91, zt_aload 0), (91, 94, zt_getL 20 37), (94, 96, zt_ic 6), (96, 97, zt_iald), (97, 100, zt_if_ne 113), (100, 101, zt_aload 0), (101, 104, zt_getL 20 37), (104, 105, zt_ic 4), (105, 106, zt_iald), (106, 109, zt_if_ne 113), (109, 110, zt_ic 1), (110, 113, zt_goto 114), (113, 114, zt_ic 0), (114, 115, zt_istoreF 1), (115, 118, zt_goto 25), (118, 119, zt_vret)]
theorem TX12_walkActs_ok : ∀ i ∈ TX12_walkActs, Ent mX12_walkActs i := by
  refine List.forall_mem_cons.mpr ⟨ze_aload_n (k := 0) (by decide +kernel) rfl, ?_⟩
  refine List.forall_mem_cons.mpr ⟨ze_getL (by decide +kernel) fl_X12_70 rfl (by decide), ?_⟩
  refine List.forall_mem_cons.mpr ⟨ze_bipush (n := 6) (by decide +kernel) (by decide), ?_⟩
  refine List.forall_mem_cons.mpr ⟨ze_iald (by decide +kernel), ?_⟩
  refine List.forall_mem_cons.mpr ⟨ze_if_ne (off := 16) (by decide +kernel) (by decide), ?_⟩
  refine List.forall_mem_cons.mpr ⟨ze_aload_n (k := 0) (by decide +kernel) rfl, ?_⟩
  refine List.forall_mem_cons.mpr ⟨ze_getL (by decide +kernel) fl_X12_70 rfl (by decide), ?_⟩
  refine List.forall_mem_cons.mpr ⟨ze_iconst (n := 4) (by decide +kernel) (by decide), ?_⟩
  refine List.forall_mem_cons.mpr ⟨ze_iald (by decide +kernel), ?_⟩
  refine List.forall_mem_cons.mpr ⟨ze_if_ne (off := 7) (by decide +kernel) (by decide), ?_⟩
  refine List.forall_mem_cons.mpr ⟨ze_iconst (n := 1) (by decide +kernel) (by decide), ?_⟩
  refine List.forall_mem_cons.mpr ⟨ze_goto (off := 4) (by decide +kernel) (by decide), ?_⟩
  refine List.forall_mem_cons.mpr ⟨ze_iconst (n := 0) (by decide +kernel) (by decide), ?_⟩
  refine List.forall_mem_cons.mpr ⟨ze_istoreF_n (k := 1) (by decide +kernel) rfl (by decide), ?_⟩
  refine List.forall_mem_cons.mpr ⟨ze_iload_n (k := 1) (by decide +kernel) rfl, ?_⟩
  refine List.forall_mem_cons.mpr ⟨ze_if_eq (off := 92) (by decide +kernel) (by decide), ?_⟩
  refine List.forall_mem_cons.mpr ⟨ze_aload_n (k := 0) (by decide +kernel) rfl, ?_⟩
  refine List.forall_mem_cons.mpr ⟨ze_aload_n (k := 0) (by decide +kernel) rfl, ?_⟩
  refine List.forall_mem_cons.mpr ⟨ze_getL (by decide +kernel) fl_X12_70 rfl (by decide), ?_⟩
  refine List.forall_mem_cons.mpr ⟨ze_aload_n (k := 0) (by decide +kernel) rfl, ?_⟩
  refine List.forall_mem_cons.mpr ⟨ze_getL (by decide +kernel) fl_X12_60 rfl (by decide), ?_⟩
  refine List.forall_mem_cons.mpr ⟨ze_aload_n (k := 0) (by decide +kernel) rfl, ?_⟩
  refine List.forall_mem_cons.mpr ⟨ze_getL (by decide +kernel) fl_X12_70 rfl (by decide), ?_⟩
  refine List.forall_mem_cons.mpr ⟨ze_iconst (n := 3) (by decide +kernel) (by decide), ?_⟩
  refine List.forall_mem_cons.mpr ⟨ze_iald (by decide +kernel), ?_⟩
  refine List.forall_mem_cons.mpr ⟨ze_aload_n (k := 0) (by decide +kernel) rfl, ?_⟩
  refine List.forall_mem_cons.mpr ⟨ze_getI (by decide +kernel) fl_X12_402 rfl, ?_⟩
  refine List.forall_mem_cons.mpr ⟨ze_aload_n (k := 0) (by decide +kernel) rfl, ?_⟩
  refine List.forall_mem_cons.mpr ⟨ze_getL (by decide +kernel) fl_X12_70 rfl (by decide), ?_⟩
  refine List.forall_mem_cons.mpr ⟨ze_iconst (n := 2) (by decide +kernel) (by decide), ?_⟩
  refine List.forall_mem_cons.mpr ⟨ze_iald (by decide +kernel), ?_⟩
  refine List.forall_mem_cons.mpr ⟨ze_aload_n (k := 0) (by decide +kernel) rfl, ?_⟩
  refine List.forall_mem_cons.mpr ⟨ze_getL (by decide +kernel) fl_X12_70 rfl (by decide), ?_⟩
  refine List.forall_mem_cons.mpr ⟨ze_iconst (n := 0) (by decide +kernel) (by decide), ?_⟩
  refine List.forall_mem_cons.mpr ⟨ze_iald (by decide +kernel), ?_⟩
  refine List.forall_mem_cons.mpr ⟨ze_aload_n (k := 0) (by decide +kernel) rfl, ?_⟩
  refine List.forall_mem_cons.mpr ⟨ze_getL (by decide +kernel) fl_X12_70 rfl (by decide), ?_⟩
  refine List.forall_mem_cons.mpr ⟨ze_iconst (n := 1) (by decide +kernel) (by decide), ?_⟩
  refine List.forall_mem_cons.mpr ⟨ze_iald (by decide +kernel), ?_⟩
  refine List.forall_mem_cons.mpr ⟨ze_callVF (idx := 285) (by decide +kernel) ml_X12_285 mv_X12_bestDeed rfl, ?_⟩
  refine List.forall_mem_cons.mpr ⟨ze_istoreF_n (k := 2) (by decide +kernel) rfl (by decide), ?_⟩
  refine List.forall_mem_cons.mpr ⟨ze_iload_n (k := 2) (by decide +kernel) rfl, ?_⟩
  refine List.forall_mem_cons.mpr ⟨ze_if_eq (off := 7) (by decide +kernel) (by decide), ?_⟩
  refine List.forall_mem_cons.mpr ⟨ze_iconst (n := 1) (by decide +kernel) (by decide), ?_⟩
  refine List.forall_mem_cons.mpr ⟨ze_goto (off := 4) (by decide +kernel) (by decide), ?_⟩
  refine List.forall_mem_cons.mpr ⟨ze_iconst (n := 0) (by decide +kernel) (by decide), ?_⟩
  refine List.forall_mem_cons.mpr ⟨ze_istoreF_n (k := 1) (by decide +kernel) rfl (by decide), ?_⟩
  refine List.forall_mem_cons.mpr ⟨ze_iload_n (k := 1) (by decide +kernel) rfl, ?_⟩
  refine List.forall_mem_cons.mpr ⟨ze_if_ne (off := 4) (by decide +kernel) (by decide), ?_⟩
  refine List.forall_mem_cons.mpr ⟨ze_vret (by decide +kernel) rfl, ?_⟩
  refine List.forall_mem_cons.mpr ⟨ze_aload_n (k := 0) (by decide +kernel) rfl, ?_⟩
  refine List.forall_mem_cons.mpr ⟨ze_iload_n (k := 2) (by decide +kernel) rfl, ?_⟩
  refine List.forall_mem_cons.mpr ⟨ze_callVF (idx := 405) (by decide +kernel) ml_X12_405 mv_X12_walkGives rfl, ?_⟩
  refine List.forall_mem_cons.mpr ⟨ze_aload_n (k := 0) (by decide +kernel) rfl, ?_⟩
  refine List.forall_mem_cons.mpr ⟨ze_getL (by decide +kernel) fl_X12_70 rfl (by decide), ?_⟩
  refine List.forall_mem_cons.mpr ⟨ze_bipush (n := 6) (by decide +kernel) (by decide), ?_⟩
  refine List.forall_mem_cons.mpr ⟨ze_iald (by decide +kernel), ?_⟩
  refine List.forall_mem_cons.mpr ⟨ze_if_ne (off := 16) (by decide +kernel) (by decide), ?_⟩
  refine List.forall_mem_cons.mpr ⟨ze_aload_n (k := 0) (by decide +kernel) rfl, ?_⟩
  refine List.forall_mem_cons.mpr ⟨ze_getL (by decide +kernel) fl_X12_70 rfl (by decide), ?_⟩
  refine List.forall_mem_cons.mpr ⟨ze_iconst (n := 4) (by decide +kernel) (by decide), ?_⟩
  refine List.forall_mem_cons.mpr ⟨ze_iald (by decide +kernel), ?_⟩
  refine List.forall_mem_cons.mpr ⟨ze_if_ne (off := 7) (by decide +kernel) (by decide), ?_⟩
  refine List.forall_mem_cons.mpr ⟨ze_iconst (n := 1) (by decide +kernel) (by decide), ?_⟩
  refine List.forall_mem_cons.mpr ⟨ze_goto (off := 4) (by decide +kernel) (by decide), ?_⟩
  refine List.forall_mem_cons.mpr ⟨ze_iconst (n := 0) (by decide +kernel) (by decide), ?_⟩
  refine List.forall_mem_cons.mpr ⟨ze_istoreF_n (k := 1) (by decide +kernel) rfl (by decide), ?_⟩
  refine List.forall_mem_cons.mpr ⟨ze_goto (off := -90) (by decide +kernel) (by decide), ?_⟩
  refine List.forall_mem_cons.mpr ⟨ze_vret (by decide +kernel) rfl, ?_⟩
  exact fun _ h => absurd h List.not_mem_nil
theorem vX12_walkActs {l : Launch} {G : GT} {d : Nat} {av : List Value} {Q : Po} {σ : Mm} (cs : List (Nat × List Nat)) (k : Nat) (h : vc l G d mX12_walkActs TX12_walkActs Q cs k TX12_walkActs (lv_args 0 av) [] σ) (hlen : (lg_sl av).length ≤ mX12_walkActs.2.2.1 := by exact Nat.le_of_ble_eq_true rfl) : MW l G d mX12_walkActs av σ Q := mw_vc TX12_walkActs_ok mc_X12_walkActs rfl hlen cs k rfl h
theorem wX12_walkActs {l : Launch} {G : GT} {d : Nat} {Q : Po} {pc : Nat} {lv : Lv} {st : List Value} {σ : Mm} (cs : List (Nat × List Nat)) (k : Nat) (h : vc l G d mX12_walkActs TX12_walkActs Q cs k (drp TX12_walkActs pc) lv st σ) (hpc : hdp (drp TX12_walkActs pc) = pc := by rfl) : Wp l G d mX12_walkActs pc lv st σ Q := wp_vc TX12_walkActs_ok cs k hpc h
def TX12_walkGives : List In := [(0, 1, zt_aload 0), (1, 2, zt_aload 0), (2, 5, zt_getL 20 37), (5, 6, zt_iload 1), (6, 9, zt_callVF mX12_givesNotice 2 20), (9, 10, zt_iload 1), (10, 11, zt_ic 2), (11, 14, zt_icmp_ne 45), (14, 15, zt_aload 0), (15, 18, zt_getL 20 6), (18, 20, zt_ic 10), (20, 21, zt_iald), (21, 24, zt_if_ne 45), (24, 25, zt_aload 0), (25, 26, zt_aload 0), (26, 29, zt_getL 20 37), (29, 30, zt_ic 0), (30, 31, zt_iald), (31, 32, zt_aload 0), (32, 35, zt_getL 20 37), (35, 36, zt_ic 1), (36, 37, zt_iald), (37, 40, zt_callSF mX12_node 2), (40, 41, zt_ic 1), (41, 42, zt_iadd), (42, 45, zt_putI 20 38), (45, 46, zt_vret)]
theorem TX12_walkGives_ok : ∀ i ∈ TX12_walkGives, Ent mX12_walkGives i := by
  refine List.forall_mem_cons.mpr ⟨ze_aload_n (k := 0) (by decide +kernel) rfl, ?_⟩
  refine List.forall_mem_cons.mpr ⟨ze_aload_n (k := 0) (by decide +kernel) rfl, ?_⟩
  refine List.forall_mem_cons.mpr ⟨ze_getL (by decide +kernel) fl_X12_70 rfl (by decide), ?_⟩
  refine List.forall_mem_cons.mpr ⟨ze_iload_n (k := 1) (by decide +kernel) rfl, ?_⟩
  refine List.forall_mem_cons.mpr ⟨ze_callVF (idx := 326) (by decide +kernel) ml_X12_326 mv_X12_givesNotice rfl, ?_⟩
  refine List.forall_mem_cons.mpr ⟨ze_iload_n (k := 1) (by decide +kernel) rfl, ?_⟩
  refine List.forall_mem_cons.mpr ⟨ze_iconst (n := 2) (by decide +kernel) (by decide), ?_⟩
  refine List.forall_mem_cons.mpr ⟨ze_icmp_ne (off := 34) (by decide +kernel) (by decide), ?_⟩
  refine List.forall_mem_cons.mpr ⟨ze_aload_n (k := 0) (by decide +kernel) rfl, ?_⟩
  refine List.forall_mem_cons.mpr ⟨ze_getL (by decide +kernel) fl_X12_17 rfl (by decide), ?_⟩
  refine List.forall_mem_cons.mpr ⟨ze_bipush (n := 10) (by decide +kernel) (by decide), ?_⟩
  refine List.forall_mem_cons.mpr ⟨ze_iald (by decide +kernel), ?_⟩
  refine List.forall_mem_cons.mpr ⟨ze_if_ne (off := 24) (by decide +kernel) (by decide), ?_⟩
  refine List.forall_mem_cons.mpr ⟨ze_aload_n (k := 0) (by decide +kernel) rfl, ?_⟩
  refine List.forall_mem_cons.mpr ⟨ze_aload_n (k := 0) (by decide +kernel) rfl, ?_⟩
  refine List.forall_mem_cons.mpr ⟨ze_getL (by decide +kernel) fl_X12_70 rfl (by decide), ?_⟩
  refine List.forall_mem_cons.mpr ⟨ze_iconst (n := 0) (by decide +kernel) (by decide), ?_⟩
  refine List.forall_mem_cons.mpr ⟨ze_iald (by decide +kernel), ?_⟩
  refine List.forall_mem_cons.mpr ⟨ze_aload_n (k := 0) (by decide +kernel) rfl, ?_⟩
  refine List.forall_mem_cons.mpr ⟨ze_getL (by decide +kernel) fl_X12_70 rfl (by decide), ?_⟩
  refine List.forall_mem_cons.mpr ⟨ze_iconst (n := 1) (by decide +kernel) (by decide), ?_⟩
  refine List.forall_mem_cons.mpr ⟨ze_iald (by decide +kernel), ?_⟩
  refine List.forall_mem_cons.mpr ⟨ze_callSF (idx := 210) (by decide +kernel) ml_X12_210 ms_X12_node, ?_⟩
  refine List.forall_mem_cons.mpr ⟨ze_iconst (n := 1) (by decide +kernel) (by decide), ?_⟩
  refine List.forall_mem_cons.mpr ⟨ze_iadd (by decide +kernel), ?_⟩
  refine List.forall_mem_cons.mpr ⟨ze_putI (by decide +kernel) fl_X12_402 ⟨_, _, _, rfl, rfl, by decide +kernel⟩ rfl, ?_⟩
  refine List.forall_mem_cons.mpr ⟨ze_vret (by decide +kernel) rfl, ?_⟩
  exact fun _ h => absurd h List.not_mem_nil
theorem vX12_walkGives {l : Launch} {G : GT} {d : Nat} {av : List Value} {Q : Po} {σ : Mm} (cs : List (Nat × List Nat)) (k : Nat) (h : vc l G d mX12_walkGives TX12_walkGives Q cs k TX12_walkGives (lv_args 0 av) [] σ) (hlen : (lg_sl av).length ≤ mX12_walkGives.2.2.1 := by exact Nat.le_of_ble_eq_true rfl) : MW l G d mX12_walkGives av σ Q := mw_vc TX12_walkGives_ok mc_X12_walkGives rfl hlen cs k rfl h
theorem wX12_walkGives {l : Launch} {G : GT} {d : Nat} {Q : Po} {pc : Nat} {lv : Lv} {st : List Value} {σ : Mm} (cs : List (Nat × List Nat)) (k : Nat) (h : vc l G d mX12_walkGives TX12_walkGives Q cs k (drp TX12_walkGives pc) lv st σ) (hpc : hdp (drp TX12_walkGives pc) = pc := by rfl) : Wp l G d mX12_walkGives pc lv st σ Q := wp_vc TX12_walkGives_ok cs k hpc h
def TX12_walks : List In := [(0, 1, zt_aload 0), (1, 4, zt_getL 20 20), (4, 5, zt_ic 0), (5, 6, zt_aload 0), (6, 9, zt_getL 20 37), (9, 10, zt_ic 0), (10, 13, zt_callSF mX12_copyRow 4), (13, 14, zt_aload 0), (14, 17, zt_getL 20 37), (17, 18, zt_ic 4), (18, 19, zt_ic 0), (19, 20, zt_iastoreF), (20, 21, zt_aload 0), (21, 24, zt_getL 20 37), (24, 25, zt_ic 5), (25, 26, zt_ic 0), (26, 27, zt_iastoreF), (27, 28, zt_aload 0), (28, 31, zt_getL 20 37), (31, 33, zt_ic 7), (33, 34, zt_ic 0), (34, 35, zt_iastoreF), (35, 36, zt_aload 0), (36, 39, zt_getL 20 37), (39, 41, zt_ic 11), (41, 42, zt_ic 0), (42, 43, zt_iastoreF), (43, 44, zt_aload 0), (44, 45, zt_ic 0), (45, 48, zt_putI 20 38), (48, 49, zt_aload 0), (49, 52, zt_callVF mX12_walkActs 0 20), (52, 53, zt_ic 0), (53, 54, zt_istoreF 2), (54, 55, zt_aload 0), (55, 58, zt_getL 20 37), (58, 60, zt_ic 6), (60, 61, zt_iald), (61, 64, zt_if_ne 137), (64, 65, zt_aload 0), (65, 68, zt_getL 20 37), (68, 70, zt_ic 11), (70, 71, zt_iald), (71, 72, zt_istoreF 3), (72, 73, zt_aload 0), (73, 74, zt_aload 0), (74, 77, zt_getL 20 37), (77, 78, zt_iload 2), (78, 80, zt_ic 31), (80, 83, zt_icmp_ge 91), (83, 84, zt_iload 1), (84, 85, zt_iload 2), (85, 86, zt_ishr), (86, 87, zt_ic 1), (87, 88, zt_iand), (88, 91, zt_goto 92), (91, 92, zt_ic 0), (92, 95, zt_callVF mX12_passes 2 20), (95, 96, zt_aload 0), (96, 99, zt_getL 20 37), (99, 101, zt_ic 11), (101, 102, zt_iald), (102, 103, zt_iload 3), (103, 106, zt_icmp_le 127), (106, 107, zt_aload 0), (107, 108, zt_aload 0), (108, 111, zt_getL 20 37), (111, 112, zt_ic 0), (112, 113, zt_iald), (113, 114, zt_aload 0), (114, 117, zt_getL 20 37), (117, 118, zt_ic 1), (118, 119, zt_iald), (119, 122, zt_callSF mX12_node 2), (122, 123, zt_ic 1), (123, 124, zt_iadd), (124, 127, zt_putI 20 38), (127, 128, zt_aload 0), (128, 131, zt_callVF mX12_walkActs 0 20), (131, 134, zt_iincF 2 1), (134, 137, zt_goto 54), (137, 138, zt_vret)]
theorem TX12_walks_ok : ∀ i ∈ TX12_walks, Ent mX12_walks i := by
  refine List.forall_mem_cons.mpr ⟨ze_aload_n (k := 0) (by decide +kernel) rfl, ?_⟩
  refine List.forall_mem_cons.mpr ⟨ze_getL (by decide +kernel) fl_X12_38 rfl (by decide), ?_⟩
  refine List.forall_mem_cons.mpr ⟨ze_iconst (n := 0) (by decide +kernel) (by decide), ?_⟩
  refine List.forall_mem_cons.mpr ⟨ze_aload_n (k := 0) (by decide +kernel) rfl, ?_⟩
  refine List.forall_mem_cons.mpr ⟨ze_getL (by decide +kernel) fl_X12_70 rfl (by decide), ?_⟩
  refine List.forall_mem_cons.mpr ⟨ze_iconst (n := 0) (by decide +kernel) (by decide), ?_⟩
  refine List.forall_mem_cons.mpr ⟨ze_callSF (idx := 353) (by decide +kernel) ml_X12_353 ms_X12_copyRow, ?_⟩
  refine List.forall_mem_cons.mpr ⟨ze_aload_n (k := 0) (by decide +kernel) rfl, ?_⟩
  refine List.forall_mem_cons.mpr ⟨ze_getL (by decide +kernel) fl_X12_70 rfl (by decide), ?_⟩
  refine List.forall_mem_cons.mpr ⟨ze_iconst (n := 4) (by decide +kernel) (by decide), ?_⟩
  refine List.forall_mem_cons.mpr ⟨ze_iconst (n := 0) (by decide +kernel) (by decide), ?_⟩
  refine List.forall_mem_cons.mpr ⟨ze_iastoreF (by decide +kernel), ?_⟩
  refine List.forall_mem_cons.mpr ⟨ze_aload_n (k := 0) (by decide +kernel) rfl, ?_⟩
  refine List.forall_mem_cons.mpr ⟨ze_getL (by decide +kernel) fl_X12_70 rfl (by decide), ?_⟩
  refine List.forall_mem_cons.mpr ⟨ze_iconst (n := 5) (by decide +kernel) (by decide), ?_⟩
  refine List.forall_mem_cons.mpr ⟨ze_iconst (n := 0) (by decide +kernel) (by decide), ?_⟩
  refine List.forall_mem_cons.mpr ⟨ze_iastoreF (by decide +kernel), ?_⟩
  refine List.forall_mem_cons.mpr ⟨ze_aload_n (k := 0) (by decide +kernel) rfl, ?_⟩
  refine List.forall_mem_cons.mpr ⟨ze_getL (by decide +kernel) fl_X12_70 rfl (by decide), ?_⟩
  refine List.forall_mem_cons.mpr ⟨ze_bipush (n := 7) (by decide +kernel) (by decide), ?_⟩
  refine List.forall_mem_cons.mpr ⟨ze_iconst (n := 0) (by decide +kernel) (by decide), ?_⟩
  refine List.forall_mem_cons.mpr ⟨ze_iastoreF (by decide +kernel), ?_⟩
  refine List.forall_mem_cons.mpr ⟨ze_aload_n (k := 0) (by decide +kernel) rfl, ?_⟩
  refine List.forall_mem_cons.mpr ⟨ze_getL (by decide +kernel) fl_X12_70 rfl (by decide), ?_⟩
  refine List.forall_mem_cons.mpr ⟨ze_bipush (n := 11) (by decide +kernel) (by decide), ?_⟩
  refine List.forall_mem_cons.mpr ⟨ze_iconst (n := 0) (by decide +kernel) (by decide), ?_⟩
  refine List.forall_mem_cons.mpr ⟨ze_iastoreF (by decide +kernel), ?_⟩
  refine List.forall_mem_cons.mpr ⟨ze_aload_n (k := 0) (by decide +kernel) rfl, ?_⟩
  refine List.forall_mem_cons.mpr ⟨ze_iconst (n := 0) (by decide +kernel) (by decide), ?_⟩
  refine List.forall_mem_cons.mpr ⟨ze_putI (by decide +kernel) fl_X12_402 ⟨_, _, _, rfl, rfl, by decide +kernel⟩ rfl, ?_⟩
  refine List.forall_mem_cons.mpr ⟨ze_aload_n (k := 0) (by decide +kernel) rfl, ?_⟩
  refine List.forall_mem_cons.mpr ⟨ze_callVF (idx := 408) (by decide +kernel) ml_X12_408 mv_X12_walkActs rfl, ?_⟩
  refine List.forall_mem_cons.mpr ⟨ze_iconst (n := 0) (by decide +kernel) (by decide), ?_⟩
  refine List.forall_mem_cons.mpr ⟨ze_istoreF_n (k := 2) (by decide +kernel) rfl (by decide), ?_⟩
  refine List.forall_mem_cons.mpr ⟨ze_aload_n (k := 0) (by decide +kernel) rfl, ?_⟩
  refine List.forall_mem_cons.mpr ⟨ze_getL (by decide +kernel) fl_X12_70 rfl (by decide), ?_⟩
  refine List.forall_mem_cons.mpr ⟨ze_bipush (n := 6) (by decide +kernel) (by decide), ?_⟩
  refine List.forall_mem_cons.mpr ⟨ze_iald (by decide +kernel), ?_⟩
  refine List.forall_mem_cons.mpr ⟨ze_if_ne (off := 76) (by decide +kernel) (by decide), ?_⟩
  refine List.forall_mem_cons.mpr ⟨ze_aload_n (k := 0) (by decide +kernel) rfl, ?_⟩
  refine List.forall_mem_cons.mpr ⟨ze_getL (by decide +kernel) fl_X12_70 rfl (by decide), ?_⟩
  refine List.forall_mem_cons.mpr ⟨ze_bipush (n := 11) (by decide +kernel) (by decide), ?_⟩
  refine List.forall_mem_cons.mpr ⟨ze_iald (by decide +kernel), ?_⟩
  refine List.forall_mem_cons.mpr ⟨ze_istoreF_n (k := 3) (by decide +kernel) rfl (by decide), ?_⟩
  refine List.forall_mem_cons.mpr ⟨ze_aload_n (k := 0) (by decide +kernel) rfl, ?_⟩
  refine List.forall_mem_cons.mpr ⟨ze_aload_n (k := 0) (by decide +kernel) rfl, ?_⟩
  refine List.forall_mem_cons.mpr ⟨ze_getL (by decide +kernel) fl_X12_70 rfl (by decide), ?_⟩
  refine List.forall_mem_cons.mpr ⟨ze_iload_n (k := 2) (by decide +kernel) rfl, ?_⟩
  refine List.forall_mem_cons.mpr ⟨ze_bipush (n := 31) (by decide +kernel) (by decide), ?_⟩
  refine List.forall_mem_cons.mpr ⟨ze_icmp_ge (off := 11) (by decide +kernel) (by decide), ?_⟩
  refine List.forall_mem_cons.mpr ⟨ze_iload_n (k := 1) (by decide +kernel) rfl, ?_⟩
  refine List.forall_mem_cons.mpr ⟨ze_iload_n (k := 2) (by decide +kernel) rfl, ?_⟩
  refine List.forall_mem_cons.mpr ⟨ze_ishr (by decide +kernel), ?_⟩
  refine List.forall_mem_cons.mpr ⟨ze_iconst (n := 1) (by decide +kernel) (by decide), ?_⟩
  refine List.forall_mem_cons.mpr ⟨ze_iand (by decide +kernel), ?_⟩
  refine List.forall_mem_cons.mpr ⟨ze_goto (off := 4) (by decide +kernel) (by decide), ?_⟩
  refine List.forall_mem_cons.mpr ⟨ze_iconst (n := 0) (by decide +kernel) (by decide), ?_⟩
  refine List.forall_mem_cons.mpr ⟨ze_callVF (idx := 336) (by decide +kernel) ml_X12_336 mv_X12_passes rfl, ?_⟩
  refine List.forall_mem_cons.mpr ⟨ze_aload_n (k := 0) (by decide +kernel) rfl, ?_⟩
  refine List.forall_mem_cons.mpr ⟨ze_getL (by decide +kernel) fl_X12_70 rfl (by decide), ?_⟩
  refine List.forall_mem_cons.mpr ⟨ze_bipush (n := 11) (by decide +kernel) (by decide), ?_⟩
  refine List.forall_mem_cons.mpr ⟨ze_iald (by decide +kernel), ?_⟩
  refine List.forall_mem_cons.mpr ⟨ze_iload_n (k := 3) (by decide +kernel) rfl, ?_⟩
  refine List.forall_mem_cons.mpr ⟨ze_icmp_le (off := 24) (by decide +kernel) (by decide), ?_⟩
  refine List.forall_mem_cons.mpr ⟨ze_aload_n (k := 0) (by decide +kernel) rfl, ?_⟩
  refine List.forall_mem_cons.mpr ⟨ze_aload_n (k := 0) (by decide +kernel) rfl, ?_⟩
  refine List.forall_mem_cons.mpr ⟨ze_getL (by decide +kernel) fl_X12_70 rfl (by decide), ?_⟩
  refine List.forall_mem_cons.mpr ⟨ze_iconst (n := 0) (by decide +kernel) (by decide), ?_⟩
  refine List.forall_mem_cons.mpr ⟨ze_iald (by decide +kernel), ?_⟩
  refine List.forall_mem_cons.mpr ⟨ze_aload_n (k := 0) (by decide +kernel) rfl, ?_⟩
  refine List.forall_mem_cons.mpr ⟨ze_getL (by decide +kernel) fl_X12_70 rfl (by decide), ?_⟩
  refine List.forall_mem_cons.mpr ⟨ze_iconst (n := 1) (by decide +kernel) (by decide), ?_⟩
  refine List.forall_mem_cons.mpr ⟨ze_iald (by decide +kernel), ?_⟩
  refine List.forall_mem_cons.mpr ⟨ze_callSF (idx := 210) (by decide +kernel) ml_X12_210 ms_X12_node, ?_⟩
  refine List.forall_mem_cons.mpr ⟨ze_iconst (n := 1) (by decide +kernel) (by decide), ?_⟩
  refine List.forall_mem_cons.mpr ⟨ze_iadd (by decide +kernel), ?_⟩
  refine List.forall_mem_cons.mpr ⟨ze_putI (by decide +kernel) fl_X12_402 ⟨_, _, _, rfl, rfl, by decide +kernel⟩ rfl, ?_⟩
  refine List.forall_mem_cons.mpr ⟨ze_aload_n (k := 0) (by decide +kernel) rfl, ?_⟩
  refine List.forall_mem_cons.mpr ⟨ze_callVF (idx := 408) (by decide +kernel) ml_X12_408 mv_X12_walkActs rfl, ?_⟩
  refine List.forall_mem_cons.mpr ⟨ze_iincF (n := 1) (by decide +kernel) (by decide) (by decide), ?_⟩
  refine List.forall_mem_cons.mpr ⟨ze_goto (off := -80) (by decide +kernel) (by decide), ?_⟩
  refine List.forall_mem_cons.mpr ⟨ze_vret (by decide +kernel) rfl, ?_⟩
  exact fun _ h => absurd h List.not_mem_nil
theorem vX12_walks {l : Launch} {G : GT} {d : Nat} {av : List Value} {Q : Po} {σ : Mm} (cs : List (Nat × List Nat)) (k : Nat) (h : vc l G d mX12_walks TX12_walks Q cs k TX12_walks (lv_args 0 av) [] σ) (hlen : (lg_sl av).length ≤ mX12_walks.2.2.1 := by exact Nat.le_of_ble_eq_true rfl) : MW l G d mX12_walks av σ Q := mw_vc TX12_walks_ok mc_X12_walks rfl hlen cs k rfl h
theorem wX12_walks {l : Launch} {G : GT} {d : Nat} {Q : Po} {pc : Nat} {lv : Lv} {st : List Value} {σ : Mm} (cs : List (Nat × List Nat)) (k : Nat) (h : vc l G d mX12_walks TX12_walks Q cs k (drp TX12_walks pc) lv st σ) (hpc : hdp (drp TX12_walks pc) = pc := by rfl) : Wp l G d mX12_walks pc lv st σ Q := wp_vc TX12_walks_ok cs k hpc h
def TX12_way : List In := [(0, 1, zt_aload 0), (1, 2, zt_ic 0), (2, 5, zt_putI 20 0), (5, 6, zt_aload 0), (6, 7, zt_aload 0), (7, 10, zt_getL 20 20), (10, 13, zt_callVF mX12_isOver 1 20), (13, 16, zt_if_ne 32), (16, 17, zt_iload 1), (17, 20, zt_if_lt 32), (20, 21, zt_iload 2), (21, 22, zt_i2l), (22, 23, zt_lc 0), (23, 26, zt_lc (2 : Int64)), (26, 29, zt_callSF mX12_isIn 3), (29, 32, zt_if_ne 34), (32, 33, zt_ic (-1)), (33, 34, zt_iret), (34, 35, zt_aload 0), (35, 38, zt_callVF mX12_laysNow 0 20), (38, 39, zt_aload 0), (39, 40, zt_iload 1), (40, 43, zt_callVF mX12_walks 1 20), (43, 44, zt_iload 2), (44, 47, zt_if_ne 57), (47, 48, zt_aload 0), (48, 51, zt_getL 20 37), (51, 53, zt_ic 7), (53, 54, zt_iald), (54, 57, zt_goto 78), (57, 58, zt_iload 2), (58, 59, zt_ic 1), (59, 62, zt_icmp_ne 72), (62, 63, zt_aload 0), (63, 66, zt_getL 20 37), (66, 68, zt_ic 11), (68, 69, zt_iald), (69, 72, zt_goto 78), (72, 73, zt_aload 0), (73, 76, zt_getL 20 37), (76, 77, zt_ic 0), (77, 78, zt_iald), (78, 79, zt_iret)]
theorem TX12_way_ok : ∀ i ∈ TX12_way, Ent mX12_way i := by
  refine List.forall_mem_cons.mpr ⟨ze_aload_n (k := 0) (by decide +kernel) rfl, ?_⟩
  refine List.forall_mem_cons.mpr ⟨ze_iconst (n := 0) (by decide +kernel) (by decide), ?_⟩
  refine List.forall_mem_cons.mpr ⟨ze_putI (by decide +kernel) fl_X12_82 ⟨_, _, _, rfl, rfl, by decide +kernel⟩ rfl, ?_⟩
  refine List.forall_mem_cons.mpr ⟨ze_aload_n (k := 0) (by decide +kernel) rfl, ?_⟩
  refine List.forall_mem_cons.mpr ⟨ze_aload_n (k := 0) (by decide +kernel) rfl, ?_⟩
  refine List.forall_mem_cons.mpr ⟨ze_getL (by decide +kernel) fl_X12_38 rfl (by decide), ?_⟩
  refine List.forall_mem_cons.mpr ⟨ze_callVF (idx := 304) (by decide +kernel) ml_X12_304 mv_X12_isOver rfl, ?_⟩
  refine List.forall_mem_cons.mpr ⟨ze_if_ne (off := 19) (by decide +kernel) (by decide), ?_⟩
  refine List.forall_mem_cons.mpr ⟨ze_iload_n (k := 1) (by decide +kernel) rfl, ?_⟩
  refine List.forall_mem_cons.mpr ⟨ze_if_lt (off := 15) (by decide +kernel) (by decide), ?_⟩
  refine List.forall_mem_cons.mpr ⟨ze_iload_n (k := 2) (by decide +kernel) rfl, ?_⟩
  refine List.forall_mem_cons.mpr ⟨ze_i2l (by decide +kernel), ?_⟩
  refine List.forall_mem_cons.mpr ⟨ze_lconst (n := 0) (by decide +kernel) (by decide), ?_⟩
  refine List.forall_mem_cons.mpr ⟨ze_ldc2 (i := 191) (by decide +kernel) kc_X12_191, ?_⟩
  refine List.forall_mem_cons.mpr ⟨ze_callSF (idx := 148) (by decide +kernel) ml_X12_148 ms_X12_isIn, ?_⟩
  refine List.forall_mem_cons.mpr ⟨ze_if_ne (off := 5) (by decide +kernel) (by decide), ?_⟩
  refine List.forall_mem_cons.mpr ⟨ze_iconst (n := -1) (by decide +kernel) (by decide), ?_⟩
  refine List.forall_mem_cons.mpr ⟨ze_iret (by decide +kernel) rfl, ?_⟩
  refine List.forall_mem_cons.mpr ⟨ze_aload_n (k := 0) (by decide +kernel) rfl, ?_⟩
  refine List.forall_mem_cons.mpr ⟨ze_callVF (idx := 399) (by decide +kernel) ml_X12_399 mv_X12_laysNow rfl, ?_⟩
  refine List.forall_mem_cons.mpr ⟨ze_aload_n (k := 0) (by decide +kernel) rfl, ?_⟩
  refine List.forall_mem_cons.mpr ⟨ze_iload_n (k := 1) (by decide +kernel) rfl, ?_⟩
  refine List.forall_mem_cons.mpr ⟨ze_callVF (idx := 411) (by decide +kernel) ml_X12_411 mv_X12_walks rfl, ?_⟩
  refine List.forall_mem_cons.mpr ⟨ze_iload_n (k := 2) (by decide +kernel) rfl, ?_⟩
  refine List.forall_mem_cons.mpr ⟨ze_if_ne (off := 13) (by decide +kernel) (by decide), ?_⟩
  refine List.forall_mem_cons.mpr ⟨ze_aload_n (k := 0) (by decide +kernel) rfl, ?_⟩
  refine List.forall_mem_cons.mpr ⟨ze_getL (by decide +kernel) fl_X12_70 rfl (by decide), ?_⟩
  refine List.forall_mem_cons.mpr ⟨ze_bipush (n := 7) (by decide +kernel) (by decide), ?_⟩
  refine List.forall_mem_cons.mpr ⟨ze_iald (by decide +kernel), ?_⟩
  refine List.forall_mem_cons.mpr ⟨ze_goto (off := 24) (by decide +kernel) (by decide), ?_⟩
  refine List.forall_mem_cons.mpr ⟨ze_iload_n (k := 2) (by decide +kernel) rfl, ?_⟩
  refine List.forall_mem_cons.mpr ⟨ze_iconst (n := 1) (by decide +kernel) (by decide), ?_⟩
  refine List.forall_mem_cons.mpr ⟨ze_icmp_ne (off := 13) (by decide +kernel) (by decide), ?_⟩
  refine List.forall_mem_cons.mpr ⟨ze_aload_n (k := 0) (by decide +kernel) rfl, ?_⟩
  refine List.forall_mem_cons.mpr ⟨ze_getL (by decide +kernel) fl_X12_70 rfl (by decide), ?_⟩
  refine List.forall_mem_cons.mpr ⟨ze_bipush (n := 11) (by decide +kernel) (by decide), ?_⟩
  refine List.forall_mem_cons.mpr ⟨ze_iald (by decide +kernel), ?_⟩
  refine List.forall_mem_cons.mpr ⟨ze_goto (off := 9) (by decide +kernel) (by decide), ?_⟩
  refine List.forall_mem_cons.mpr ⟨ze_aload_n (k := 0) (by decide +kernel) rfl, ?_⟩
  refine List.forall_mem_cons.mpr ⟨ze_getL (by decide +kernel) fl_X12_70 rfl (by decide), ?_⟩
  refine List.forall_mem_cons.mpr ⟨ze_iconst (n := 0) (by decide +kernel) (by decide), ?_⟩
  refine List.forall_mem_cons.mpr ⟨ze_iald (by decide +kernel), ?_⟩
  refine List.forall_mem_cons.mpr ⟨ze_iret (by decide +kernel) rfl, ?_⟩
  exact fun _ h => absurd h List.not_mem_nil
theorem vX12_way {l : Launch} {G : GT} {d : Nat} {av : List Value} {Q : Po} {σ : Mm} (cs : List (Nat × List Nat)) (k : Nat) (h : vc l G d mX12_way TX12_way Q cs k TX12_way (lv_args 0 av) [] σ) (hlen : (lg_sl av).length ≤ mX12_way.2.2.1 := by exact Nat.le_of_ble_eq_true rfl) : MW l G d mX12_way av σ Q := mw_vc TX12_way_ok mc_X12_way rfl hlen cs k rfl h
theorem wX12_way {l : Launch} {G : GT} {d : Nat} {Q : Po} {pc : Nat} {lv : Lv} {st : List Value} {σ : Mm} (cs : List (Nat × List Nat)) (k : Nat) (h : vc l G d mX12_way TX12_way Q cs k (drp TX12_way pc) lv st σ) (hpc : hdp (drp TX12_way pc) = pc := by rfl) : Wp l G d mX12_way pc lv st σ Q := wp_vc TX12_way_ok cs k hpc h
def TX12_unlike : List In := [(0, 1, zt_ic 0), (1, 2, zt_istoreF 2), (2, 3, zt_iload 1), (3, 4, zt_ic 2), (4, 5, zt_idiv), (5, 6, zt_istoreF 3), (6, 7, zt_iload 3), (7, 10, zt_if_le 99), (10, 11, zt_iload 3), (11, 13, zt_istoreF 4), (13, 15, zt_iload 4), (15, 16, zt_iload 1), (16, 19, zt_icmp_ge 92), (19, 20, zt_aload 0), (20, 23, zt_getL 20 39), (23, 25, zt_iload 4), (25, 26, zt_iald), (26, 28, zt_istoreF 5), (28, 30, zt_iload 4), (30, 32, zt_istoreF 6), (32, 34, zt_iload 6), (34, 35, zt_iload 3), (35, 38, zt_icmp_lt 77), (38, 39, zt_aload 0), (39, 42, zt_getL 20 39), (42, 44, zt_iload 6), (44, 45, zt_iload 3), (45, 46, zt_isub), (46, 47, zt_iald), (47, 49, zt_iload 5), (49, 52, zt_icmp_le 77), (52, 53, zt_aload 0), (53, 56, zt_getL 20 39), (56, 58, zt_iload 6), (58, 59, zt_aload 0), (59, 62, zt_getL 20 39), (62, 64, zt_iload 6), (64, 65, zt_iload 3), (65, 66, zt_isub), (66, 67, zt_iald), (67, 68, zt_iastoreF), (68, 70, zt_iload 6), (70, 71, zt_iload 3), (71, 72, zt_isub), (72, 74, zt_istoreF 6), (74, 77, zt_goto 32), (77, 78, zt_aload 0), (78, 81, zt_getL 20 39), (81, 83, zt_iload 6), (83, 85, zt_iload 5), (85, 86, zt_iastoreF), (86, 89, zt_iincF 4 1), (89, 92, zt_goto 13), (92, 93, zt_iload 3), (93, 94, zt_ic 2), (94, 95, zt_idiv), (95, 96, zt_istoreF 3), (96, 99, zt_goto 6), (99, 100, zt_ic 0), (100, 101, zt_istoreF 3), (101, 102, zt_iload 3), (102, 103, zt_iload 1), (103, 106, zt_icmp_ge 141), (106, 107, zt_iload 2), (107, 108, zt_iload 3), (108, 111, zt_if_eq 128), (111, 112, zt_aload 0), (112, 115, zt_getL 20 39), (115, 116, zt_iload 3), (116, 117, zt_iald), (117, 118, zt_aload 0), (118, 121, zt_getL 20 39), (121, 122, zt_iload 3), (122, 123, zt_ic 1), (123, 124, zt_isub), (124, 125, zt_iald), (125, 128, zt_icmp_eq 132), (128, 129, zt_ic 1), (129, 132, zt_goto 133), (132, 133, zt_ic 0), (133, 134, zt_iadd), (134, 135, zt_istoreF 2), (135, 138, zt_iincF 3 1), (138, 141, zt_goto 101), (141, 142, zt_iload 2), (142, 143, zt_iret)]
theorem TX12_unlike_ok : ∀ i ∈ TX12_unlike, Ent mX12_unlike i := by
  refine List.forall_mem_cons.mpr ⟨ze_iconst (n := 0) (by decide +kernel) (by decide), ?_⟩
  refine List.forall_mem_cons.mpr ⟨ze_istoreF_n (k := 2) (by decide +kernel) rfl (by decide), ?_⟩
  refine List.forall_mem_cons.mpr ⟨ze_iload_n (k := 1) (by decide +kernel) rfl, ?_⟩
  refine List.forall_mem_cons.mpr ⟨ze_iconst (n := 2) (by decide +kernel) (by decide), ?_⟩
  refine List.forall_mem_cons.mpr ⟨ze_idiv (by decide +kernel), ?_⟩
  refine List.forall_mem_cons.mpr ⟨ze_istoreF_n (k := 3) (by decide +kernel) rfl (by decide), ?_⟩
  refine List.forall_mem_cons.mpr ⟨ze_iload_n (k := 3) (by decide +kernel) rfl, ?_⟩
  refine List.forall_mem_cons.mpr ⟨ze_if_le (off := 92) (by decide +kernel) (by decide), ?_⟩
  refine List.forall_mem_cons.mpr ⟨ze_iload_n (k := 3) (by decide +kernel) rfl, ?_⟩
  refine List.forall_mem_cons.mpr ⟨ze_istoreF (by decide +kernel) (by decide), ?_⟩
  refine List.forall_mem_cons.mpr ⟨ze_iload (by decide +kernel), ?_⟩
  refine List.forall_mem_cons.mpr ⟨ze_iload_n (k := 1) (by decide +kernel) rfl, ?_⟩
  refine List.forall_mem_cons.mpr ⟨ze_icmp_ge (off := 76) (by decide +kernel) (by decide), ?_⟩
  refine List.forall_mem_cons.mpr ⟨ze_aload_n (k := 0) (by decide +kernel) rfl, ?_⟩
  refine List.forall_mem_cons.mpr ⟨ze_getL (by decide +kernel) fl_X12_73 rfl (by decide), ?_⟩
  refine List.forall_mem_cons.mpr ⟨ze_iload (by decide +kernel), ?_⟩
  refine List.forall_mem_cons.mpr ⟨ze_iald (by decide +kernel), ?_⟩
  refine List.forall_mem_cons.mpr ⟨ze_istoreF (by decide +kernel) (by decide), ?_⟩
  refine List.forall_mem_cons.mpr ⟨ze_iload (by decide +kernel), ?_⟩
  refine List.forall_mem_cons.mpr ⟨ze_istoreF (by decide +kernel) (by decide), ?_⟩
  refine List.forall_mem_cons.mpr ⟨ze_iload (by decide +kernel), ?_⟩
  refine List.forall_mem_cons.mpr ⟨ze_iload_n (k := 3) (by decide +kernel) rfl, ?_⟩
  refine List.forall_mem_cons.mpr ⟨ze_icmp_lt (off := 42) (by decide +kernel) (by decide), ?_⟩
  refine List.forall_mem_cons.mpr ⟨ze_aload_n (k := 0) (by decide +kernel) rfl, ?_⟩
  refine List.forall_mem_cons.mpr ⟨ze_getL (by decide +kernel) fl_X12_73 rfl (by decide), ?_⟩
  refine List.forall_mem_cons.mpr ⟨ze_iload (by decide +kernel), ?_⟩
  refine List.forall_mem_cons.mpr ⟨ze_iload_n (k := 3) (by decide +kernel) rfl, ?_⟩
  refine List.forall_mem_cons.mpr ⟨ze_isub (by decide +kernel), ?_⟩
  refine List.forall_mem_cons.mpr ⟨ze_iald (by decide +kernel), ?_⟩
  refine List.forall_mem_cons.mpr ⟨ze_iload (by decide +kernel), ?_⟩
  refine List.forall_mem_cons.mpr ⟨ze_icmp_le (off := 28) (by decide +kernel) (by decide), ?_⟩
  refine List.forall_mem_cons.mpr ⟨ze_aload_n (k := 0) (by decide +kernel) rfl, ?_⟩
  refine List.forall_mem_cons.mpr ⟨ze_getL (by decide +kernel) fl_X12_73 rfl (by decide), ?_⟩
  refine List.forall_mem_cons.mpr ⟨ze_iload (by decide +kernel), ?_⟩
  refine List.forall_mem_cons.mpr ⟨ze_aload_n (k := 0) (by decide +kernel) rfl, ?_⟩
  refine List.forall_mem_cons.mpr ⟨ze_getL (by decide +kernel) fl_X12_73 rfl (by decide), ?_⟩
  refine List.forall_mem_cons.mpr ⟨ze_iload (by decide +kernel), ?_⟩
  refine List.forall_mem_cons.mpr ⟨ze_iload_n (k := 3) (by decide +kernel) rfl, ?_⟩
  refine List.forall_mem_cons.mpr ⟨ze_isub (by decide +kernel), ?_⟩
  refine List.forall_mem_cons.mpr ⟨ze_iald (by decide +kernel), ?_⟩
  refine List.forall_mem_cons.mpr ⟨ze_iastoreF (by decide +kernel), ?_⟩
  refine List.forall_mem_cons.mpr ⟨ze_iload (by decide +kernel), ?_⟩
  refine List.forall_mem_cons.mpr ⟨ze_iload_n (k := 3) (by decide +kernel) rfl, ?_⟩
  refine List.forall_mem_cons.mpr ⟨ze_isub (by decide +kernel), ?_⟩
  refine List.forall_mem_cons.mpr ⟨ze_istoreF (by decide +kernel) (by decide), ?_⟩
  refine List.forall_mem_cons.mpr ⟨ze_goto (off := -42) (by decide +kernel) (by decide), ?_⟩
  refine List.forall_mem_cons.mpr ⟨ze_aload_n (k := 0) (by decide +kernel) rfl, ?_⟩
  refine List.forall_mem_cons.mpr ⟨ze_getL (by decide +kernel) fl_X12_73 rfl (by decide), ?_⟩
  refine List.forall_mem_cons.mpr ⟨ze_iload (by decide +kernel), ?_⟩
  refine List.forall_mem_cons.mpr ⟨ze_iload (by decide +kernel), ?_⟩
  refine List.forall_mem_cons.mpr ⟨ze_iastoreF (by decide +kernel), ?_⟩
  refine List.forall_mem_cons.mpr ⟨ze_iincF (n := 1) (by decide +kernel) (by decide) (by decide), ?_⟩
  refine List.forall_mem_cons.mpr ⟨ze_goto (off := -76) (by decide +kernel) (by decide), ?_⟩
  refine List.forall_mem_cons.mpr ⟨ze_iload_n (k := 3) (by decide +kernel) rfl, ?_⟩
  refine List.forall_mem_cons.mpr ⟨ze_iconst (n := 2) (by decide +kernel) (by decide), ?_⟩
  refine List.forall_mem_cons.mpr ⟨ze_idiv (by decide +kernel), ?_⟩
  refine List.forall_mem_cons.mpr ⟨ze_istoreF_n (k := 3) (by decide +kernel) rfl (by decide), ?_⟩
  refine List.forall_mem_cons.mpr ⟨ze_goto (off := -90) (by decide +kernel) (by decide), ?_⟩
  refine List.forall_mem_cons.mpr ⟨ze_iconst (n := 0) (by decide +kernel) (by decide), ?_⟩
  refine List.forall_mem_cons.mpr ⟨ze_istoreF_n (k := 3) (by decide +kernel) rfl (by decide), ?_⟩
  refine List.forall_mem_cons.mpr ⟨ze_iload_n (k := 3) (by decide +kernel) rfl, ?_⟩
  refine List.forall_mem_cons.mpr ⟨ze_iload_n (k := 1) (by decide +kernel) rfl, ?_⟩
  refine List.forall_mem_cons.mpr ⟨ze_icmp_ge (off := 38) (by decide +kernel) (by decide), ?_⟩
  refine List.forall_mem_cons.mpr ⟨ze_iload_n (k := 2) (by decide +kernel) rfl, ?_⟩
  refine List.forall_mem_cons.mpr ⟨ze_iload_n (k := 3) (by decide +kernel) rfl, ?_⟩
  refine List.forall_mem_cons.mpr ⟨ze_if_eq (off := 20) (by decide +kernel) (by decide), ?_⟩
  refine List.forall_mem_cons.mpr ⟨ze_aload_n (k := 0) (by decide +kernel) rfl, ?_⟩
  refine List.forall_mem_cons.mpr ⟨ze_getL (by decide +kernel) fl_X12_73 rfl (by decide), ?_⟩
  refine List.forall_mem_cons.mpr ⟨ze_iload_n (k := 3) (by decide +kernel) rfl, ?_⟩
  refine List.forall_mem_cons.mpr ⟨ze_iald (by decide +kernel), ?_⟩
  refine List.forall_mem_cons.mpr ⟨ze_aload_n (k := 0) (by decide +kernel) rfl, ?_⟩
  refine List.forall_mem_cons.mpr ⟨ze_getL (by decide +kernel) fl_X12_73 rfl (by decide), ?_⟩
  refine List.forall_mem_cons.mpr ⟨ze_iload_n (k := 3) (by decide +kernel) rfl, ?_⟩
  refine List.forall_mem_cons.mpr ⟨ze_iconst (n := 1) (by decide +kernel) (by decide), ?_⟩
  refine List.forall_mem_cons.mpr ⟨ze_isub (by decide +kernel), ?_⟩
  refine List.forall_mem_cons.mpr ⟨ze_iald (by decide +kernel), ?_⟩
  refine List.forall_mem_cons.mpr ⟨ze_icmp_eq (off := 7) (by decide +kernel) (by decide), ?_⟩
  refine List.forall_mem_cons.mpr ⟨ze_iconst (n := 1) (by decide +kernel) (by decide), ?_⟩
  refine List.forall_mem_cons.mpr ⟨ze_goto (off := 4) (by decide +kernel) (by decide), ?_⟩
  refine List.forall_mem_cons.mpr ⟨ze_iconst (n := 0) (by decide +kernel) (by decide), ?_⟩
  refine List.forall_mem_cons.mpr ⟨ze_iadd (by decide +kernel), ?_⟩
  refine List.forall_mem_cons.mpr ⟨ze_istoreF_n (k := 2) (by decide +kernel) rfl (by decide), ?_⟩
  refine List.forall_mem_cons.mpr ⟨ze_iincF (n := 1) (by decide +kernel) (by decide) (by decide), ?_⟩
  refine List.forall_mem_cons.mpr ⟨ze_goto (off := -37) (by decide +kernel) (by decide), ?_⟩
  refine List.forall_mem_cons.mpr ⟨ze_iload_n (k := 2) (by decide +kernel) rfl, ?_⟩
  refine List.forall_mem_cons.mpr ⟨ze_iret (by decide +kernel) rfl, ?_⟩
  exact fun _ h => absurd h List.not_mem_nil
theorem vX12_unlike {l : Launch} {G : GT} {d : Nat} {av : List Value} {Q : Po} {σ : Mm} (cs : List (Nat × List Nat)) (k : Nat) (h : vc l G d mX12_unlike TX12_unlike Q cs k TX12_unlike (lv_args 0 av) [] σ) (hlen : (lg_sl av).length ≤ mX12_unlike.2.2.1 := by exact Nat.le_of_ble_eq_true rfl) : MW l G d mX12_unlike av σ Q := mw_vc TX12_unlike_ok mc_X12_unlike rfl hlen cs k rfl h
theorem wX12_unlike {l : Launch} {G : GT} {d : Nat} {Q : Po} {pc : Nat} {lv : Lv} {st : List Value} {σ : Mm} (cs : List (Nat × List Nat)) (k : Nat) (h : vc l G d mX12_unlike TX12_unlike Q cs k (drp TX12_unlike pc) lv st σ) (hpc : hdp (drp TX12_unlike pc) = pc := by rfl) : Wp l G d mX12_unlike pc lv st σ Q := wp_vc TX12_unlike_ok cs k hpc h
def TX12_spread : List In := [(0, 1, zt_aload 0), (1, 2, zt_ic 0), (2, 5, zt_putI 20 0), (5, 6, zt_aload 0), (6, 7, zt_aload 0), (7, 10, zt_getL 20 20), (10, 13, zt_callVF mX12_isOver 1 20), (13, 16, zt_if_ne 28), (16, 17, zt_iload 1), (17, 18, zt_i2l), (18, 19, zt_lc 0), (19, 22, zt_lc (4 : Int64)), (22, 25, zt_callSF mX12_isIn 3), (25, 28, zt_if_ne 30), (28, 29, zt_ic (-1)), (29, 30, zt_iret), (30, 31, zt_aload 0), (31, 34, zt_callVF mX12_laysNow 0 20), (34, 35, zt_ic 1), (35, 36, zt_aload 0), (36, 39, zt_getL 20 6), (39, 40, zt_ic 1), (40, 41, zt_iald), (41, 42, zt_aload 0), (42, 45, zt_getL 20 20), (45, 46, zt_ic 0), (46, 47, zt_iald), (47, 48, zt_isub), (48, 49, zt_ishl), (49, 50, zt_istoreF 2), (50, 51, zt_ic 0), (51, 52, zt_istoreF 3), (52, 53, zt_ic 0), (53, 55, zt_istoreF 4), (55, 58, zt_ic (2147483647 : Int32)), (58, 60, zt_istoreF 5), (60, 61, zt_ic 0), (61, 63, zt_istoreF 6), (63, 64, zt_ic 0), (64, 66, zt_istoreF 7), (66, 68, zt_iload 7), (68, 69, zt_iload 2), (69, 72, zt_icmp_ge 167), (72, 73, zt_aload 0), (73, 75, zt_iload 7), (75, 78, zt_callVF mX12_walks 1 20), (78, 79, zt_aload 0), (79, 82, zt_getL 20 39), (82, 84, zt_iload 7), (84, 85, zt_aload 0), (85, 88, zt_getL 20 37), (88, 90, zt_ic 7), (90, 91, zt_iald), (91, 92, zt_iastoreF), (92, 94, zt_iload 4), (94, 95, zt_aload 0), (95, 98, zt_getL 20 37), (98, 100, zt_ic 7), (100, 101, zt_iald), (101, 102, zt_iadd), (102, 104, zt_istoreF 4), (104, 105, zt_aload 0), (105, 108, zt_getL 20 37), (108, 110, zt_ic 7), (110, 111, zt_iald), (111, 113, zt_iload 5), (113, 116, zt_icmp_ge 125), (116, 117, zt_aload 0), (117, 120, zt_getL 20 37), (120, 122, zt_ic 7), (122, 123, zt_iald), (123, 125, zt_istoreF 5), (125, 126, zt_aload 0), (126, 129, zt_getL 20 37), (129, 131, zt_ic 7), (131, 132, zt_iald), (132, 134, zt_iload 6), (134, 137, zt_icmp_le 146), (137, 138, zt_aload 0), (138, 141, zt_getL 20 37), (141, 143, zt_ic 7), (143, 144, zt_iald), (144, 146, zt_istoreF 6), (146, 147, zt_iload 3), (147, 148, zt_aload 0), (148, 151, zt_callVF mX12_isCalled 0 20), (151, 154, zt_if_eq 158), (154, 155, zt_ic 1), (155, 158, zt_goto 159), (158, 159, zt_ic 0), (159, 160, zt_iadd), (160, 161, zt_istoreF 3), (161, 164, zt_iincF 7 1), (164, 167, zt_goto 66), (167, 168, zt_iload 1), (168, 171, zt_if_ne 176), (171, 173, zt_iload 5), (173, 176, zt_goto 210), (176, 177, zt_iload 1), (177, 178, zt_ic 1), (178, 181, zt_icmp_ne 186), (181, 183, zt_iload 6), (183, 186, zt_goto 210), (186, 187, zt_iload 1), (187, 188, zt_ic 2), (188, 191, zt_icmp_ne 195), (191, 192, zt_iload 3), (192, 195, zt_goto 210), (195, 196, zt_iload 1), (196, 197, zt_ic 3), (197, 200, zt_icmp_ne 208), (200, 201, zt_aload 0), (201, 202, zt_iload 2), (202, 205, zt_callVF mX12_unlike 1 20), (205, 208, zt_goto 210), (208, 210, zt_iload 4), (210, 211, zt_iret)]
theorem TX12_spread_ok : ∀ i ∈ TX12_spread, Ent mX12_spread i := by
  refine List.forall_mem_cons.mpr ⟨ze_aload_n (k := 0) (by decide +kernel) rfl, ?_⟩
  refine List.forall_mem_cons.mpr ⟨ze_iconst (n := 0) (by decide +kernel) (by decide), ?_⟩
  refine List.forall_mem_cons.mpr ⟨ze_putI (by decide +kernel) fl_X12_82 ⟨_, _, _, rfl, rfl, by decide +kernel⟩ rfl, ?_⟩
  refine List.forall_mem_cons.mpr ⟨ze_aload_n (k := 0) (by decide +kernel) rfl, ?_⟩
  refine List.forall_mem_cons.mpr ⟨ze_aload_n (k := 0) (by decide +kernel) rfl, ?_⟩
  refine List.forall_mem_cons.mpr ⟨ze_getL (by decide +kernel) fl_X12_38 rfl (by decide), ?_⟩
  refine List.forall_mem_cons.mpr ⟨ze_callVF (idx := 304) (by decide +kernel) ml_X12_304 mv_X12_isOver rfl, ?_⟩
  refine List.forall_mem_cons.mpr ⟨ze_if_ne (off := 15) (by decide +kernel) (by decide), ?_⟩
  refine List.forall_mem_cons.mpr ⟨ze_iload_n (k := 1) (by decide +kernel) rfl, ?_⟩
  refine List.forall_mem_cons.mpr ⟨ze_i2l (by decide +kernel), ?_⟩
  refine List.forall_mem_cons.mpr ⟨ze_lconst (n := 0) (by decide +kernel) (by decide), ?_⟩
  refine List.forall_mem_cons.mpr ⟨ze_ldc2 (i := 393) (by decide +kernel) kc_X12_393, ?_⟩
  refine List.forall_mem_cons.mpr ⟨ze_callSF (idx := 148) (by decide +kernel) ml_X12_148 ms_X12_isIn, ?_⟩
  refine List.forall_mem_cons.mpr ⟨ze_if_ne (off := 5) (by decide +kernel) (by decide), ?_⟩
  refine List.forall_mem_cons.mpr ⟨ze_iconst (n := -1) (by decide +kernel) (by decide), ?_⟩
  refine List.forall_mem_cons.mpr ⟨ze_iret (by decide +kernel) rfl, ?_⟩
  refine List.forall_mem_cons.mpr ⟨ze_aload_n (k := 0) (by decide +kernel) rfl, ?_⟩
  refine List.forall_mem_cons.mpr ⟨ze_callVF (idx := 399) (by decide +kernel) ml_X12_399 mv_X12_laysNow rfl, ?_⟩
  refine List.forall_mem_cons.mpr ⟨ze_iconst (n := 1) (by decide +kernel) (by decide), ?_⟩
  refine List.forall_mem_cons.mpr ⟨ze_aload_n (k := 0) (by decide +kernel) rfl, ?_⟩
  refine List.forall_mem_cons.mpr ⟨ze_getL (by decide +kernel) fl_X12_17 rfl (by decide), ?_⟩
  refine List.forall_mem_cons.mpr ⟨ze_iconst (n := 1) (by decide +kernel) (by decide), ?_⟩
  refine List.forall_mem_cons.mpr ⟨ze_iald (by decide +kernel), ?_⟩
  refine List.forall_mem_cons.mpr ⟨ze_aload_n (k := 0) (by decide +kernel) rfl, ?_⟩
  refine List.forall_mem_cons.mpr ⟨ze_getL (by decide +kernel) fl_X12_38 rfl (by decide), ?_⟩
  refine List.forall_mem_cons.mpr ⟨ze_iconst (n := 0) (by decide +kernel) (by decide), ?_⟩
  refine List.forall_mem_cons.mpr ⟨ze_iald (by decide +kernel), ?_⟩
  refine List.forall_mem_cons.mpr ⟨ze_isub (by decide +kernel), ?_⟩
  refine List.forall_mem_cons.mpr ⟨ze_ishl (by decide +kernel), ?_⟩
  refine List.forall_mem_cons.mpr ⟨ze_istoreF_n (k := 2) (by decide +kernel) rfl (by decide), ?_⟩
  refine List.forall_mem_cons.mpr ⟨ze_iconst (n := 0) (by decide +kernel) (by decide), ?_⟩
  refine List.forall_mem_cons.mpr ⟨ze_istoreF_n (k := 3) (by decide +kernel) rfl (by decide), ?_⟩
  refine List.forall_mem_cons.mpr ⟨ze_iconst (n := 0) (by decide +kernel) (by decide), ?_⟩
  refine List.forall_mem_cons.mpr ⟨ze_istoreF (by decide +kernel) (by decide), ?_⟩
  refine List.forall_mem_cons.mpr ⟨ze_ldcw (i := 416) (by decide +kernel) kc_X12_416, ?_⟩
  refine List.forall_mem_cons.mpr ⟨ze_istoreF (by decide +kernel) (by decide), ?_⟩
  refine List.forall_mem_cons.mpr ⟨ze_iconst (n := 0) (by decide +kernel) (by decide), ?_⟩
  refine List.forall_mem_cons.mpr ⟨ze_istoreF (by decide +kernel) (by decide), ?_⟩
  refine List.forall_mem_cons.mpr ⟨ze_iconst (n := 0) (by decide +kernel) (by decide), ?_⟩
  refine List.forall_mem_cons.mpr ⟨ze_istoreF (by decide +kernel) (by decide), ?_⟩
  refine List.forall_mem_cons.mpr ⟨ze_iload (by decide +kernel), ?_⟩
  refine List.forall_mem_cons.mpr ⟨ze_iload_n (k := 2) (by decide +kernel) rfl, ?_⟩
  refine List.forall_mem_cons.mpr ⟨ze_icmp_ge (off := 98) (by decide +kernel) (by decide), ?_⟩
  refine List.forall_mem_cons.mpr ⟨ze_aload_n (k := 0) (by decide +kernel) rfl, ?_⟩
  refine List.forall_mem_cons.mpr ⟨ze_iload (by decide +kernel), ?_⟩
  refine List.forall_mem_cons.mpr ⟨ze_callVF (idx := 411) (by decide +kernel) ml_X12_411 mv_X12_walks rfl, ?_⟩
  refine List.forall_mem_cons.mpr ⟨ze_aload_n (k := 0) (by decide +kernel) rfl, ?_⟩
  refine List.forall_mem_cons.mpr ⟨ze_getL (by decide +kernel) fl_X12_73 rfl (by decide), ?_⟩
  refine List.forall_mem_cons.mpr ⟨ze_iload (by decide +kernel), ?_⟩
  refine List.forall_mem_cons.mpr ⟨ze_aload_n (k := 0) (by decide +kernel) rfl, ?_⟩
  refine List.forall_mem_cons.mpr ⟨ze_getL (by decide +kernel) fl_X12_70 rfl (by decide), ?_⟩
  refine List.forall_mem_cons.mpr ⟨ze_bipush (n := 7) (by decide +kernel) (by decide), ?_⟩
  refine List.forall_mem_cons.mpr ⟨ze_iald (by decide +kernel), ?_⟩
  refine List.forall_mem_cons.mpr ⟨ze_iastoreF (by decide +kernel), ?_⟩
  refine List.forall_mem_cons.mpr ⟨ze_iload (by decide +kernel), ?_⟩
  refine List.forall_mem_cons.mpr ⟨ze_aload_n (k := 0) (by decide +kernel) rfl, ?_⟩
  refine List.forall_mem_cons.mpr ⟨ze_getL (by decide +kernel) fl_X12_70 rfl (by decide), ?_⟩
  refine List.forall_mem_cons.mpr ⟨ze_bipush (n := 7) (by decide +kernel) (by decide), ?_⟩
  refine List.forall_mem_cons.mpr ⟨ze_iald (by decide +kernel), ?_⟩
  refine List.forall_mem_cons.mpr ⟨ze_iadd (by decide +kernel), ?_⟩
  refine List.forall_mem_cons.mpr ⟨ze_istoreF (by decide +kernel) (by decide), ?_⟩
  refine List.forall_mem_cons.mpr ⟨ze_aload_n (k := 0) (by decide +kernel) rfl, ?_⟩
  refine List.forall_mem_cons.mpr ⟨ze_getL (by decide +kernel) fl_X12_70 rfl (by decide), ?_⟩
  refine List.forall_mem_cons.mpr ⟨ze_bipush (n := 7) (by decide +kernel) (by decide), ?_⟩
  refine List.forall_mem_cons.mpr ⟨ze_iald (by decide +kernel), ?_⟩
  refine List.forall_mem_cons.mpr ⟨ze_iload (by decide +kernel), ?_⟩
  refine List.forall_mem_cons.mpr ⟨ze_icmp_ge (off := 12) (by decide +kernel) (by decide), ?_⟩
  refine List.forall_mem_cons.mpr ⟨ze_aload_n (k := 0) (by decide +kernel) rfl, ?_⟩
  refine List.forall_mem_cons.mpr ⟨ze_getL (by decide +kernel) fl_X12_70 rfl (by decide), ?_⟩
  refine List.forall_mem_cons.mpr ⟨ze_bipush (n := 7) (by decide +kernel) (by decide), ?_⟩
  refine List.forall_mem_cons.mpr ⟨ze_iald (by decide +kernel), ?_⟩
  refine List.forall_mem_cons.mpr ⟨ze_istoreF (by decide +kernel) (by decide), ?_⟩
  refine List.forall_mem_cons.mpr ⟨ze_aload_n (k := 0) (by decide +kernel) rfl, ?_⟩
  refine List.forall_mem_cons.mpr ⟨ze_getL (by decide +kernel) fl_X12_70 rfl (by decide), ?_⟩
  refine List.forall_mem_cons.mpr ⟨ze_bipush (n := 7) (by decide +kernel) (by decide), ?_⟩
  refine List.forall_mem_cons.mpr ⟨ze_iald (by decide +kernel), ?_⟩
  refine List.forall_mem_cons.mpr ⟨ze_iload (by decide +kernel), ?_⟩
  refine List.forall_mem_cons.mpr ⟨ze_icmp_le (off := 12) (by decide +kernel) (by decide), ?_⟩
  refine List.forall_mem_cons.mpr ⟨ze_aload_n (k := 0) (by decide +kernel) rfl, ?_⟩
  refine List.forall_mem_cons.mpr ⟨ze_getL (by decide +kernel) fl_X12_70 rfl (by decide), ?_⟩
  refine List.forall_mem_cons.mpr ⟨ze_bipush (n := 7) (by decide +kernel) (by decide), ?_⟩
  refine List.forall_mem_cons.mpr ⟨ze_iald (by decide +kernel), ?_⟩
  refine List.forall_mem_cons.mpr ⟨ze_istoreF (by decide +kernel) (by decide), ?_⟩
  refine List.forall_mem_cons.mpr ⟨ze_iload_n (k := 3) (by decide +kernel) rfl, ?_⟩
  refine List.forall_mem_cons.mpr ⟨ze_aload_n (k := 0) (by decide +kernel) rfl, ?_⟩
  refine List.forall_mem_cons.mpr ⟨ze_callVF (idx := 417) (by decide +kernel) ml_X12_417 mv_X12_isCalled rfl, ?_⟩
  refine List.forall_mem_cons.mpr ⟨ze_if_eq (off := 7) (by decide +kernel) (by decide), ?_⟩
  refine List.forall_mem_cons.mpr ⟨ze_iconst (n := 1) (by decide +kernel) (by decide), ?_⟩
  refine List.forall_mem_cons.mpr ⟨ze_goto (off := 4) (by decide +kernel) (by decide), ?_⟩
  refine List.forall_mem_cons.mpr ⟨ze_iconst (n := 0) (by decide +kernel) (by decide), ?_⟩
  refine List.forall_mem_cons.mpr ⟨ze_iadd (by decide +kernel), ?_⟩
  refine List.forall_mem_cons.mpr ⟨ze_istoreF_n (k := 3) (by decide +kernel) rfl (by decide), ?_⟩
  refine List.forall_mem_cons.mpr ⟨ze_iincF (n := 1) (by decide +kernel) (by decide) (by decide), ?_⟩
  refine List.forall_mem_cons.mpr ⟨ze_goto (off := -98) (by decide +kernel) (by decide), ?_⟩
  refine List.forall_mem_cons.mpr ⟨ze_iload_n (k := 1) (by decide +kernel) rfl, ?_⟩
  refine List.forall_mem_cons.mpr ⟨ze_if_ne (off := 8) (by decide +kernel) (by decide), ?_⟩
  refine List.forall_mem_cons.mpr ⟨ze_iload (by decide +kernel), ?_⟩
  refine List.forall_mem_cons.mpr ⟨ze_goto (off := 37) (by decide +kernel) (by decide), ?_⟩
  refine List.forall_mem_cons.mpr ⟨ze_iload_n (k := 1) (by decide +kernel) rfl, ?_⟩
  refine List.forall_mem_cons.mpr ⟨ze_iconst (n := 1) (by decide +kernel) (by decide), ?_⟩
  refine List.forall_mem_cons.mpr ⟨ze_icmp_ne (off := 8) (by decide +kernel) (by decide), ?_⟩
  refine List.forall_mem_cons.mpr ⟨ze_iload (by decide +kernel), ?_⟩
  refine List.forall_mem_cons.mpr ⟨ze_goto (off := 27) (by decide +kernel) (by decide), ?_⟩
  refine List.forall_mem_cons.mpr ⟨ze_iload_n (k := 1) (by decide +kernel) rfl, ?_⟩
  refine List.forall_mem_cons.mpr ⟨ze_iconst (n := 2) (by decide +kernel) (by decide), ?_⟩
  refine List.forall_mem_cons.mpr ⟨ze_icmp_ne (off := 7) (by decide +kernel) (by decide), ?_⟩
  refine List.forall_mem_cons.mpr ⟨ze_iload_n (k := 3) (by decide +kernel) rfl, ?_⟩
  refine List.forall_mem_cons.mpr ⟨ze_goto (off := 18) (by decide +kernel) (by decide), ?_⟩
  refine List.forall_mem_cons.mpr ⟨ze_iload_n (k := 1) (by decide +kernel) rfl, ?_⟩
  refine List.forall_mem_cons.mpr ⟨ze_iconst (n := 3) (by decide +kernel) (by decide), ?_⟩
  refine List.forall_mem_cons.mpr ⟨ze_icmp_ne (off := 11) (by decide +kernel) (by decide), ?_⟩
  refine List.forall_mem_cons.mpr ⟨ze_aload_n (k := 0) (by decide +kernel) rfl, ?_⟩
  refine List.forall_mem_cons.mpr ⟨ze_iload_n (k := 2) (by decide +kernel) rfl, ?_⟩
  refine List.forall_mem_cons.mpr ⟨ze_callVF (idx := 420) (by decide +kernel) ml_X12_420 mv_X12_unlike rfl, ?_⟩
  refine List.forall_mem_cons.mpr ⟨ze_goto (off := 5) (by decide +kernel) (by decide), ?_⟩
  refine List.forall_mem_cons.mpr ⟨ze_iload (by decide +kernel), ?_⟩
  refine List.forall_mem_cons.mpr ⟨ze_iret (by decide +kernel) rfl, ?_⟩
  exact fun _ h => absurd h List.not_mem_nil
theorem vX12_spread {l : Launch} {G : GT} {d : Nat} {av : List Value} {Q : Po} {σ : Mm} (cs : List (Nat × List Nat)) (k : Nat) (h : vc l G d mX12_spread TX12_spread Q cs k TX12_spread (lv_args 0 av) [] σ) (hlen : (lg_sl av).length ≤ mX12_spread.2.2.1 := by exact Nat.le_of_ble_eq_true rfl) : MW l G d mX12_spread av σ Q := mw_vc TX12_spread_ok mc_X12_spread rfl hlen cs k rfl h
theorem wX12_spread {l : Launch} {G : GT} {d : Nat} {Q : Po} {pc : Nat} {lv : Lv} {st : List Value} {σ : Mm} (cs : List (Nat × List Nat)) (k : Nat) (h : vc l G d mX12_spread TX12_spread Q cs k (drp TX12_spread pc) lv st σ) (hpc : hdp (drp TX12_spread pc) = pc := by rfl) : Wp l G d mX12_spread pc lv st σ Q := wp_vc TX12_spread_ok cs k hpc h
def TX12_isCalled : List In := [(0, 1, zt_aload 0), (1, 4, zt_getL 20 37), (4, 5, zt_ic 0), (5, 6, zt_iald), (6, 7, zt_aload 0), (7, 10, zt_getL 20 6), (10, 11, zt_ic 1), (11, 12, zt_iald), (12, 15, zt_icmp_ge 19), (15, 16, zt_ic 1), (16, 19, zt_goto 20), (19, 20, zt_ic 0), (20, 21, zt_zret)]
theorem TX12_isCalled_ok : ∀ i ∈ TX12_isCalled, Ent mX12_isCalled i := by
  refine List.forall_mem_cons.mpr ⟨ze_aload_n (k := 0) (by decide +kernel) rfl, ?_⟩
  refine List.forall_mem_cons.mpr ⟨ze_getL (by decide +kernel) fl_X12_70 rfl (by decide), ?_⟩
  refine List.forall_mem_cons.mpr ⟨ze_iconst (n := 0) (by decide +kernel) (by decide), ?_⟩
  refine List.forall_mem_cons.mpr ⟨ze_iald (by decide +kernel), ?_⟩
  refine List.forall_mem_cons.mpr ⟨ze_aload_n (k := 0) (by decide +kernel) rfl, ?_⟩
  refine List.forall_mem_cons.mpr ⟨ze_getL (by decide +kernel) fl_X12_17 rfl (by decide), ?_⟩
  refine List.forall_mem_cons.mpr ⟨ze_iconst (n := 1) (by decide +kernel) (by decide), ?_⟩
  refine List.forall_mem_cons.mpr ⟨ze_iald (by decide +kernel), ?_⟩
  refine List.forall_mem_cons.mpr ⟨ze_icmp_ge (off := 7) (by decide +kernel) (by decide), ?_⟩
  refine List.forall_mem_cons.mpr ⟨ze_iconst (n := 1) (by decide +kernel) (by decide), ?_⟩
  refine List.forall_mem_cons.mpr ⟨ze_goto (off := 4) (by decide +kernel) (by decide), ?_⟩
  refine List.forall_mem_cons.mpr ⟨ze_iconst (n := 0) (by decide +kernel) (by decide), ?_⟩
  refine List.forall_mem_cons.mpr ⟨ze_zret (by decide +kernel) rfl, ?_⟩
  exact fun _ h => absurd h List.not_mem_nil
theorem vX12_isCalled {l : Launch} {G : GT} {d : Nat} {av : List Value} {Q : Po} {σ : Mm} (cs : List (Nat × List Nat)) (k : Nat) (h : vc l G d mX12_isCalled TX12_isCalled Q cs k TX12_isCalled (lv_args 0 av) [] σ) (hlen : (lg_sl av).length ≤ mX12_isCalled.2.2.1 := by exact Nat.le_of_ble_eq_true rfl) : MW l G d mX12_isCalled av σ Q := mw_vc TX12_isCalled_ok mc_X12_isCalled rfl hlen cs k rfl h
theorem wX12_isCalled {l : Launch} {G : GT} {d : Nat} {Q : Po} {pc : Nat} {lv : Lv} {st : List Value} {σ : Mm} (cs : List (Nat × List Nat)) (k : Nat) (h : vc l G d mX12_isCalled TX12_isCalled Q cs k (drp TX12_isCalled pc) lv st σ) (hpc : hdp (drp TX12_isCalled pc) = pc := by rfl) : Wp l G d mX12_isCalled pc lv st σ Q := wp_vc TX12_isCalled_ok cs k hpc h
def TX12_laysMasses : List In := [(0, 1, zt_aload 0), (1, 4, zt_callVF mX12_laysNow 0 20), (4, 5, zt_ic 0), (5, 6, zt_istoreF 1), (6, 7, zt_iload 1), (7, 10, zt_ic 144), (10, 13, zt_icmp_ge 26), (13, 14, zt_aload 0), (14, 17, zt_getL 20 40), (17, 18, zt_iload 1), (18, 19, zt_ic 0), (19, 20, zt_iastoreF), (20, 23, zt_iincF 1 1), (23, 26, zt_goto 6), (26, 27, zt_aload 0), (27, 28, zt_ic 0), (28, 31, zt_putI 20 41), (31, 32, zt_aload 0), (32, 33, zt_ic 0), (33, 36, zt_putI 20 42), (36, 37, zt_aload 0), (37, 38, zt_ic 0), (38, 41, zt_putI 20 43), (41, 42, zt_aload 0), (42, 45, zt_getL 20 40), (45, 46, zt_aload 0), (46, 49, zt_getL 20 20), (49, 50, zt_ic 0), (50, 51, zt_iald), (51, 52, zt_aload 0), (52, 55, zt_getL 20 20), (55, 56, zt_ic 1), (56, 57, zt_iald), (57, 60, zt_callSF mX12_node 2), (60, 63, zt_ic (1000000000 : Int32)), (63, 64, zt_iastoreF), (64, 65, zt_aload 0), (65, 68, zt_getL 20 20), (68, 69, zt_ic 0), (69, 70, zt_iald), (70, 71, zt_istoreF 1), (71, 72, zt_iload 1), (72, 73, zt_aload 0), (73, 76, zt_getL 20 6), (76, 77, zt_ic 1), (77, 78, zt_iald), (78, 81, zt_icmp_ge 106), (81, 82, zt_ic 0), (82, 83, zt_istoreF 2), (83, 84, zt_iload 2), (84, 85, zt_iload 1), (85, 88, zt_icmp_gt 100), (88, 89, zt_aload 0), (89, 90, zt_iload 1), (90, 91, zt_iload 2), (91, 94, zt_callVF mX12_goesOn 2 20), (94, 97, zt_iincF 2 1), (97, 100, zt_goto 83), (100, 103, zt_iincF 1 1), (103, 106, zt_goto 71), (106, 107, zt_vret)]
theorem TX12_laysMasses_ok : ∀ i ∈ TX12_laysMasses, Ent mX12_laysMasses i := by
  refine List.forall_mem_cons.mpr ⟨ze_aload_n (k := 0) (by decide +kernel) rfl, ?_⟩
  refine List.forall_mem_cons.mpr ⟨ze_callVF (idx := 399) (by decide +kernel) ml_X12_399 mv_X12_laysNow rfl, ?_⟩
  refine List.forall_mem_cons.mpr ⟨ze_iconst (n := 0) (by decide +kernel) (by decide), ?_⟩
  refine List.forall_mem_cons.mpr ⟨ze_istoreF_n (k := 1) (by decide +kernel) rfl (by decide), ?_⟩
  refine List.forall_mem_cons.mpr ⟨ze_iload_n (k := 1) (by decide +kernel) rfl, ?_⟩
  refine List.forall_mem_cons.mpr ⟨ze_sipush (n := 144) (by decide +kernel) (by decide), ?_⟩
  refine List.forall_mem_cons.mpr ⟨ze_icmp_ge (off := 16) (by decide +kernel) (by decide), ?_⟩
  refine List.forall_mem_cons.mpr ⟨ze_aload_n (k := 0) (by decide +kernel) rfl, ?_⟩
  refine List.forall_mem_cons.mpr ⟨ze_getL (by decide +kernel) fl_X12_76 rfl (by decide), ?_⟩
  refine List.forall_mem_cons.mpr ⟨ze_iload_n (k := 1) (by decide +kernel) rfl, ?_⟩
  refine List.forall_mem_cons.mpr ⟨ze_iconst (n := 0) (by decide +kernel) (by decide), ?_⟩
  refine List.forall_mem_cons.mpr ⟨ze_iastoreF (by decide +kernel), ?_⟩
  refine List.forall_mem_cons.mpr ⟨ze_iincF (n := 1) (by decide +kernel) (by decide) (by decide), ?_⟩
  refine List.forall_mem_cons.mpr ⟨ze_goto (off := -17) (by decide +kernel) (by decide), ?_⟩
  refine List.forall_mem_cons.mpr ⟨ze_aload_n (k := 0) (by decide +kernel) rfl, ?_⟩
  refine List.forall_mem_cons.mpr ⟨ze_iconst (n := 0) (by decide +kernel) (by decide), ?_⟩
  refine List.forall_mem_cons.mpr ⟨ze_putI (by decide +kernel) fl_X12_423 ⟨_, _, _, rfl, rfl, by decide +kernel⟩ rfl, ?_⟩
  refine List.forall_mem_cons.mpr ⟨ze_aload_n (k := 0) (by decide +kernel) rfl, ?_⟩
  refine List.forall_mem_cons.mpr ⟨ze_iconst (n := 0) (by decide +kernel) (by decide), ?_⟩
  refine List.forall_mem_cons.mpr ⟨ze_putI (by decide +kernel) fl_X12_426 ⟨_, _, _, rfl, rfl, by decide +kernel⟩ rfl, ?_⟩
  refine List.forall_mem_cons.mpr ⟨ze_aload_n (k := 0) (by decide +kernel) rfl, ?_⟩
  refine List.forall_mem_cons.mpr ⟨ze_iconst (n := 0) (by decide +kernel) (by decide), ?_⟩
  refine List.forall_mem_cons.mpr ⟨ze_putI (by decide +kernel) fl_X12_429 ⟨_, _, _, rfl, rfl, by decide +kernel⟩ rfl, ?_⟩
  refine List.forall_mem_cons.mpr ⟨ze_aload_n (k := 0) (by decide +kernel) rfl, ?_⟩
  refine List.forall_mem_cons.mpr ⟨ze_getL (by decide +kernel) fl_X12_76 rfl (by decide), ?_⟩
  refine List.forall_mem_cons.mpr ⟨ze_aload_n (k := 0) (by decide +kernel) rfl, ?_⟩
  refine List.forall_mem_cons.mpr ⟨ze_getL (by decide +kernel) fl_X12_38 rfl (by decide), ?_⟩
  refine List.forall_mem_cons.mpr ⟨ze_iconst (n := 0) (by decide +kernel) (by decide), ?_⟩
  refine List.forall_mem_cons.mpr ⟨ze_iald (by decide +kernel), ?_⟩
  refine List.forall_mem_cons.mpr ⟨ze_aload_n (k := 0) (by decide +kernel) rfl, ?_⟩
  refine List.forall_mem_cons.mpr ⟨ze_getL (by decide +kernel) fl_X12_38 rfl (by decide), ?_⟩
  refine List.forall_mem_cons.mpr ⟨ze_iconst (n := 1) (by decide +kernel) (by decide), ?_⟩
  refine List.forall_mem_cons.mpr ⟨ze_iald (by decide +kernel), ?_⟩
  refine List.forall_mem_cons.mpr ⟨ze_callSF (idx := 210) (by decide +kernel) ml_X12_210 ms_X12_node, ?_⟩
  refine List.forall_mem_cons.mpr ⟨ze_ldcw (i := 432) (by decide +kernel) kc_X12_432, ?_⟩
  refine List.forall_mem_cons.mpr ⟨ze_iastoreF (by decide +kernel), ?_⟩
  refine List.forall_mem_cons.mpr ⟨ze_aload_n (k := 0) (by decide +kernel) rfl, ?_⟩
  refine List.forall_mem_cons.mpr ⟨ze_getL (by decide +kernel) fl_X12_38 rfl (by decide), ?_⟩
  refine List.forall_mem_cons.mpr ⟨ze_iconst (n := 0) (by decide +kernel) (by decide), ?_⟩
  refine List.forall_mem_cons.mpr ⟨ze_iald (by decide +kernel), ?_⟩
  refine List.forall_mem_cons.mpr ⟨ze_istoreF_n (k := 1) (by decide +kernel) rfl (by decide), ?_⟩
  refine List.forall_mem_cons.mpr ⟨ze_iload_n (k := 1) (by decide +kernel) rfl, ?_⟩
  refine List.forall_mem_cons.mpr ⟨ze_aload_n (k := 0) (by decide +kernel) rfl, ?_⟩
  refine List.forall_mem_cons.mpr ⟨ze_getL (by decide +kernel) fl_X12_17 rfl (by decide), ?_⟩
  refine List.forall_mem_cons.mpr ⟨ze_iconst (n := 1) (by decide +kernel) (by decide), ?_⟩
  refine List.forall_mem_cons.mpr ⟨ze_iald (by decide +kernel), ?_⟩
  refine List.forall_mem_cons.mpr ⟨ze_icmp_ge (off := 28) (by decide +kernel) (by decide), ?_⟩
  refine List.forall_mem_cons.mpr ⟨ze_iconst (n := 0) (by decide +kernel) (by decide), ?_⟩
  refine List.forall_mem_cons.mpr ⟨ze_istoreF_n (k := 2) (by decide +kernel) rfl (by decide), ?_⟩
  refine List.forall_mem_cons.mpr ⟨ze_iload_n (k := 2) (by decide +kernel) rfl, ?_⟩
  refine List.forall_mem_cons.mpr ⟨ze_iload_n (k := 1) (by decide +kernel) rfl, ?_⟩
  refine List.forall_mem_cons.mpr ⟨ze_icmp_gt (off := 15) (by decide +kernel) (by decide), ?_⟩
  refine List.forall_mem_cons.mpr ⟨ze_aload_n (k := 0) (by decide +kernel) rfl, ?_⟩
  refine List.forall_mem_cons.mpr ⟨ze_iload_n (k := 1) (by decide +kernel) rfl, ?_⟩
  refine List.forall_mem_cons.mpr ⟨ze_iload_n (k := 2) (by decide +kernel) rfl, ?_⟩
  refine List.forall_mem_cons.mpr ⟨ze_callVF (idx := 433) (by decide +kernel) ml_X12_433 mv_X12_goesOn rfl, ?_⟩
  refine List.forall_mem_cons.mpr ⟨ze_iincF (n := 1) (by decide +kernel) (by decide) (by decide), ?_⟩
  refine List.forall_mem_cons.mpr ⟨ze_goto (off := -14) (by decide +kernel) (by decide), ?_⟩
  refine List.forall_mem_cons.mpr ⟨ze_iincF (n := 1) (by decide +kernel) (by decide) (by decide), ?_⟩
  refine List.forall_mem_cons.mpr ⟨ze_goto (off := -32) (by decide +kernel) (by decide), ?_⟩
  refine List.forall_mem_cons.mpr ⟨ze_vret (by decide +kernel) rfl, ?_⟩
  exact fun _ h => absurd h List.not_mem_nil
theorem vX12_laysMasses {l : Launch} {G : GT} {d : Nat} {av : List Value} {Q : Po} {σ : Mm} (cs : List (Nat × List Nat)) (k : Nat) (h : vc l G d mX12_laysMasses TX12_laysMasses Q cs k TX12_laysMasses (lv_args 0 av) [] σ) (hlen : (lg_sl av).length ≤ mX12_laysMasses.2.2.1 := by exact Nat.le_of_ble_eq_true rfl) : MW l G d mX12_laysMasses av σ Q := mw_vc TX12_laysMasses_ok mc_X12_laysMasses rfl hlen cs k rfl h
theorem wX12_laysMasses {l : Launch} {G : GT} {d : Nat} {Q : Po} {pc : Nat} {lv : Lv} {st : List Value} {σ : Mm} (cs : List (Nat × List Nat)) (k : Nat) (h : vc l G d mX12_laysMasses TX12_laysMasses Q cs k (drp TX12_laysMasses pc) lv st σ) (hpc : hdp (drp TX12_laysMasses pc) = pc := by rfl) : Wp l G d mX12_laysMasses pc lv st σ Q := wp_vc TX12_laysMasses_ok cs k hpc h
def TX12_goesOn : List In := [(0, 1, zt_aload 0), (1, 4, zt_getL 20 40), (4, 5, zt_iload 1), (5, 6, zt_iload 2), (6, 9, zt_callSF mX12_node 2), (9, 10, zt_iald), (10, 11, zt_istoreF 3), (11, 12, zt_iload 3), (12, 15, zt_if_ne 16), (15, 16, zt_vret), (16, 17, zt_aload 0), (17, 18, zt_aload 0), (18, 21, zt_getL 20 20), (21, 22, zt_aload 0), (22, 25, zt_getL 20 31), (25, 26, zt_aload 0), (26, 29, zt_getL 20 20), (29, 30, zt_ic 3), (30, 31, zt_iald), (31, 32, zt_ic 0), (32, 33, zt_aload 0), (33, 36, zt_getL 20 20), (36, 37, zt_ic 2), (37, 38, zt_iald), (38, 39, zt_iload 1), (39, 40, zt_iload 2), (40, 43, zt_callVF mX12_bestDeed 7 20), (43, 45, zt_istoreF 4), (45, 47, zt_iload 4), (47, 48, zt_ic 1), (48, 51, zt_icmp_ne 61), (51, 52, zt_aload 0), (52, 53, zt_dup), (53, 56, zt_getI 20 41), (56, 57, zt_iload 3), (57, 58, zt_iadd), (58, 61, zt_putI 20 41), (61, 63, zt_iload 4), (63, 64, zt_ic 2), (64, 67, zt_icmp_ne 77), (67, 68, zt_aload 0), (68, 69, zt_dup), (69, 72, zt_getI 20 42), (72, 73, zt_iload 3), (73, 74, zt_iadd), (74, 77, zt_putI 20 42), (77, 79, zt_iload 4), (79, 82, zt_if_eq 83), (82, 83, zt_vret), (83, 84, zt_iload 1), (84, 85, zt_aload 0), (85, 88, zt_getL 20 6), (88, 89, zt_ic 1), (89, 90, zt_iald), (90, 91, zt_ic 1), (91, 92, zt_isub), (92, 95, zt_icmp_ne 106), (95, 96, zt_aload 0), (96, 97, zt_dup), (97, 100, zt_getI 20 43), (100, 101, zt_iload 3), (101, 102, zt_iadd), (102, 105, zt_putI 20 43), (105, 106, zt_vret), (106, 107, zt_iload 3), (107, 108, zt_i2l), (108, 109, zt_aload 0), (109, 112, zt_getL 20 6), (112, 114, zt_ic 6), (114, 115, zt_iald), (115, 116, zt_i2l), (116, 117, zt_lmul), (117, 120, zt_lc (100 : Int64)), (120, 121, zt_ldiv), (121, 122, zt_l2i), (122, 124, zt_istoreF 5), (124, 125, zt_aload 0), (125, 128, zt_getL 20 40), (128, 129, zt_iload 1), (129, 130, zt_ic 1), (130, 131, zt_iadd), (131, 132, zt_iload 2), (132, 133, zt_ic 1), (133, 134, zt_iadd), (134, 137, zt_callSF mX12_node 2), (137, 138, zt_dup2), (138, 139, zt_iald), (139, 141, zt_iload 5), (141, 142, zt_iadd), (142, 143, zt_iastoreF), (143, 144, zt_aload 0), (144, 147, zt_getL 20 40), (147, 148, zt_iload 1), (148, 149, zt_ic 1), (149, 150, zt_iadd), (150, 151, zt_iload 2), (151, 154, zt_callSF mX12_node 2), (154, 155, zt_dup2), (155, 156, zt_iald), (156, 157, zt_iload 3), (157, 159, zt_iload 5), (159, 160, zt_isub), (160, 161, zt_iadd), (161, 162, zt_iastoreF), (162, 163, zt_vret)]
theorem TX12_goesOn_ok : ∀ i ∈ TX12_goesOn, Ent mX12_goesOn i := by
  refine List.forall_mem_cons.mpr ⟨ze_aload_n (k := 0) (by decide +kernel) rfl, ?_⟩
  refine List.forall_mem_cons.mpr ⟨ze_getL (by decide +kernel) fl_X12_76 rfl (by decide), ?_⟩
  refine List.forall_mem_cons.mpr ⟨ze_iload_n (k := 1) (by decide +kernel) rfl, ?_⟩
  refine List.forall_mem_cons.mpr ⟨ze_iload_n (k := 2) (by decide +kernel) rfl, ?_⟩
  refine List.forall_mem_cons.mpr ⟨ze_callSF (idx := 210) (by decide +kernel) ml_X12_210 ms_X12_node, ?_⟩
  refine List.forall_mem_cons.mpr ⟨ze_iald (by decide +kernel), ?_⟩
  refine List.forall_mem_cons.mpr ⟨ze_istoreF_n (k := 3) (by decide +kernel) rfl (by decide), ?_⟩
  refine List.forall_mem_cons.mpr ⟨ze_iload_n (k := 3) (by decide +kernel) rfl, ?_⟩
  refine List.forall_mem_cons.mpr ⟨ze_if_ne (off := 4) (by decide +kernel) (by decide), ?_⟩
  refine List.forall_mem_cons.mpr ⟨ze_vret (by decide +kernel) rfl, ?_⟩
  refine List.forall_mem_cons.mpr ⟨ze_aload_n (k := 0) (by decide +kernel) rfl, ?_⟩
  refine List.forall_mem_cons.mpr ⟨ze_aload_n (k := 0) (by decide +kernel) rfl, ?_⟩
  refine List.forall_mem_cons.mpr ⟨ze_getL (by decide +kernel) fl_X12_38 rfl (by decide), ?_⟩
  refine List.forall_mem_cons.mpr ⟨ze_aload_n (k := 0) (by decide +kernel) rfl, ?_⟩
  refine List.forall_mem_cons.mpr ⟨ze_getL (by decide +kernel) fl_X12_60 rfl (by decide), ?_⟩
  refine List.forall_mem_cons.mpr ⟨ze_aload_n (k := 0) (by decide +kernel) rfl, ?_⟩
  refine List.forall_mem_cons.mpr ⟨ze_getL (by decide +kernel) fl_X12_38 rfl (by decide), ?_⟩
  refine List.forall_mem_cons.mpr ⟨ze_iconst (n := 3) (by decide +kernel) (by decide), ?_⟩
  refine List.forall_mem_cons.mpr ⟨ze_iald (by decide +kernel), ?_⟩
  refine List.forall_mem_cons.mpr ⟨ze_iconst (n := 0) (by decide +kernel) (by decide), ?_⟩
  refine List.forall_mem_cons.mpr ⟨ze_aload_n (k := 0) (by decide +kernel) rfl, ?_⟩
  refine List.forall_mem_cons.mpr ⟨ze_getL (by decide +kernel) fl_X12_38 rfl (by decide), ?_⟩
  refine List.forall_mem_cons.mpr ⟨ze_iconst (n := 2) (by decide +kernel) (by decide), ?_⟩
  refine List.forall_mem_cons.mpr ⟨ze_iald (by decide +kernel), ?_⟩
  refine List.forall_mem_cons.mpr ⟨ze_iload_n (k := 1) (by decide +kernel) rfl, ?_⟩
  refine List.forall_mem_cons.mpr ⟨ze_iload_n (k := 2) (by decide +kernel) rfl, ?_⟩
  refine List.forall_mem_cons.mpr ⟨ze_callVF (idx := 285) (by decide +kernel) ml_X12_285 mv_X12_bestDeed rfl, ?_⟩
  refine List.forall_mem_cons.mpr ⟨ze_istoreF (by decide +kernel) (by decide), ?_⟩
  refine List.forall_mem_cons.mpr ⟨ze_iload (by decide +kernel), ?_⟩
  refine List.forall_mem_cons.mpr ⟨ze_iconst (n := 1) (by decide +kernel) (by decide), ?_⟩
  refine List.forall_mem_cons.mpr ⟨ze_icmp_ne (off := 13) (by decide +kernel) (by decide), ?_⟩
  refine List.forall_mem_cons.mpr ⟨ze_aload_n (k := 0) (by decide +kernel) rfl, ?_⟩
  refine List.forall_mem_cons.mpr ⟨ze_dup (by decide +kernel), ?_⟩
  refine List.forall_mem_cons.mpr ⟨ze_getI (by decide +kernel) fl_X12_423 rfl, ?_⟩
  refine List.forall_mem_cons.mpr ⟨ze_iload_n (k := 3) (by decide +kernel) rfl, ?_⟩
  refine List.forall_mem_cons.mpr ⟨ze_iadd (by decide +kernel), ?_⟩
  refine List.forall_mem_cons.mpr ⟨ze_putI (by decide +kernel) fl_X12_423 ⟨_, _, _, rfl, rfl, by decide +kernel⟩ rfl, ?_⟩
  refine List.forall_mem_cons.mpr ⟨ze_iload (by decide +kernel), ?_⟩
  refine List.forall_mem_cons.mpr ⟨ze_iconst (n := 2) (by decide +kernel) (by decide), ?_⟩
  refine List.forall_mem_cons.mpr ⟨ze_icmp_ne (off := 13) (by decide +kernel) (by decide), ?_⟩
  refine List.forall_mem_cons.mpr ⟨ze_aload_n (k := 0) (by decide +kernel) rfl, ?_⟩
  refine List.forall_mem_cons.mpr ⟨ze_dup (by decide +kernel), ?_⟩
  refine List.forall_mem_cons.mpr ⟨ze_getI (by decide +kernel) fl_X12_426 rfl, ?_⟩
  refine List.forall_mem_cons.mpr ⟨ze_iload_n (k := 3) (by decide +kernel) rfl, ?_⟩
  refine List.forall_mem_cons.mpr ⟨ze_iadd (by decide +kernel), ?_⟩
  refine List.forall_mem_cons.mpr ⟨ze_putI (by decide +kernel) fl_X12_426 ⟨_, _, _, rfl, rfl, by decide +kernel⟩ rfl, ?_⟩
  refine List.forall_mem_cons.mpr ⟨ze_iload (by decide +kernel), ?_⟩
  refine List.forall_mem_cons.mpr ⟨ze_if_eq (off := 4) (by decide +kernel) (by decide), ?_⟩
  refine List.forall_mem_cons.mpr ⟨ze_vret (by decide +kernel) rfl, ?_⟩
  refine List.forall_mem_cons.mpr ⟨ze_iload_n (k := 1) (by decide +kernel) rfl, ?_⟩
  refine List.forall_mem_cons.mpr ⟨ze_aload_n (k := 0) (by decide +kernel) rfl, ?_⟩
  refine List.forall_mem_cons.mpr ⟨ze_getL (by decide +kernel) fl_X12_17 rfl (by decide), ?_⟩
  refine List.forall_mem_cons.mpr ⟨ze_iconst (n := 1) (by decide +kernel) (by decide), ?_⟩
  refine List.forall_mem_cons.mpr ⟨ze_iald (by decide +kernel), ?_⟩
  refine List.forall_mem_cons.mpr ⟨ze_iconst (n := 1) (by decide +kernel) (by decide), ?_⟩
  refine List.forall_mem_cons.mpr ⟨ze_isub (by decide +kernel), ?_⟩
  refine List.forall_mem_cons.mpr ⟨ze_icmp_ne (off := 14) (by decide +kernel) (by decide), ?_⟩
  refine List.forall_mem_cons.mpr ⟨ze_aload_n (k := 0) (by decide +kernel) rfl, ?_⟩
  refine List.forall_mem_cons.mpr ⟨ze_dup (by decide +kernel), ?_⟩
  refine List.forall_mem_cons.mpr ⟨ze_getI (by decide +kernel) fl_X12_429 rfl, ?_⟩
  refine List.forall_mem_cons.mpr ⟨ze_iload_n (k := 3) (by decide +kernel) rfl, ?_⟩
  refine List.forall_mem_cons.mpr ⟨ze_iadd (by decide +kernel), ?_⟩
  refine List.forall_mem_cons.mpr ⟨ze_putI (by decide +kernel) fl_X12_429 ⟨_, _, _, rfl, rfl, by decide +kernel⟩ rfl, ?_⟩
  refine List.forall_mem_cons.mpr ⟨ze_vret (by decide +kernel) rfl, ?_⟩
  refine List.forall_mem_cons.mpr ⟨ze_iload_n (k := 3) (by decide +kernel) rfl, ?_⟩
  refine List.forall_mem_cons.mpr ⟨ze_i2l (by decide +kernel), ?_⟩
  refine List.forall_mem_cons.mpr ⟨ze_aload_n (k := 0) (by decide +kernel) rfl, ?_⟩
  refine List.forall_mem_cons.mpr ⟨ze_getL (by decide +kernel) fl_X12_17 rfl (by decide), ?_⟩
  refine List.forall_mem_cons.mpr ⟨ze_bipush (n := 6) (by decide +kernel) (by decide), ?_⟩
  refine List.forall_mem_cons.mpr ⟨ze_iald (by decide +kernel), ?_⟩
  refine List.forall_mem_cons.mpr ⟨ze_i2l (by decide +kernel), ?_⟩
  refine List.forall_mem_cons.mpr ⟨ze_lmul (by decide +kernel), ?_⟩
  refine List.forall_mem_cons.mpr ⟨ze_ldc2 (i := 436) (by decide +kernel) kc_X12_436, ?_⟩
  refine List.forall_mem_cons.mpr ⟨ze_ldiv (by decide +kernel), ?_⟩
  refine List.forall_mem_cons.mpr ⟨ze_l2i (by decide +kernel), ?_⟩
  refine List.forall_mem_cons.mpr ⟨ze_istoreF (by decide +kernel) (by decide), ?_⟩
  refine List.forall_mem_cons.mpr ⟨ze_aload_n (k := 0) (by decide +kernel) rfl, ?_⟩
  refine List.forall_mem_cons.mpr ⟨ze_getL (by decide +kernel) fl_X12_76 rfl (by decide), ?_⟩
  refine List.forall_mem_cons.mpr ⟨ze_iload_n (k := 1) (by decide +kernel) rfl, ?_⟩
  refine List.forall_mem_cons.mpr ⟨ze_iconst (n := 1) (by decide +kernel) (by decide), ?_⟩
  refine List.forall_mem_cons.mpr ⟨ze_iadd (by decide +kernel), ?_⟩
  refine List.forall_mem_cons.mpr ⟨ze_iload_n (k := 2) (by decide +kernel) rfl, ?_⟩
  refine List.forall_mem_cons.mpr ⟨ze_iconst (n := 1) (by decide +kernel) (by decide), ?_⟩
  refine List.forall_mem_cons.mpr ⟨ze_iadd (by decide +kernel), ?_⟩
  refine List.forall_mem_cons.mpr ⟨ze_callSF (idx := 210) (by decide +kernel) ml_X12_210 ms_X12_node, ?_⟩
  refine List.forall_mem_cons.mpr ⟨ze_dup2 (by decide +kernel), ?_⟩
  refine List.forall_mem_cons.mpr ⟨ze_iald (by decide +kernel), ?_⟩
  refine List.forall_mem_cons.mpr ⟨ze_iload (by decide +kernel), ?_⟩
  refine List.forall_mem_cons.mpr ⟨ze_iadd (by decide +kernel), ?_⟩
  refine List.forall_mem_cons.mpr ⟨ze_iastoreF (by decide +kernel), ?_⟩
  refine List.forall_mem_cons.mpr ⟨ze_aload_n (k := 0) (by decide +kernel) rfl, ?_⟩
  refine List.forall_mem_cons.mpr ⟨ze_getL (by decide +kernel) fl_X12_76 rfl (by decide), ?_⟩
  refine List.forall_mem_cons.mpr ⟨ze_iload_n (k := 1) (by decide +kernel) rfl, ?_⟩
  refine List.forall_mem_cons.mpr ⟨ze_iconst (n := 1) (by decide +kernel) (by decide), ?_⟩
  refine List.forall_mem_cons.mpr ⟨ze_iadd (by decide +kernel), ?_⟩
  refine List.forall_mem_cons.mpr ⟨ze_iload_n (k := 2) (by decide +kernel) rfl, ?_⟩
  refine List.forall_mem_cons.mpr ⟨ze_callSF (idx := 210) (by decide +kernel) ml_X12_210 ms_X12_node, ?_⟩
  refine List.forall_mem_cons.mpr ⟨ze_dup2 (by decide +kernel), ?_⟩
  refine List.forall_mem_cons.mpr ⟨ze_iald (by decide +kernel), ?_⟩
  refine List.forall_mem_cons.mpr ⟨ze_iload_n (k := 3) (by decide +kernel) rfl, ?_⟩
  refine List.forall_mem_cons.mpr ⟨ze_iload (by decide +kernel), ?_⟩
  refine List.forall_mem_cons.mpr ⟨ze_isub (by decide +kernel), ?_⟩
  refine List.forall_mem_cons.mpr ⟨ze_iadd (by decide +kernel), ?_⟩
  refine List.forall_mem_cons.mpr ⟨ze_iastoreF (by decide +kernel), ?_⟩
  refine List.forall_mem_cons.mpr ⟨ze_vret (by decide +kernel) rfl, ?_⟩
  exact fun _ h => absurd h List.not_mem_nil
theorem vX12_goesOn {l : Launch} {G : GT} {d : Nat} {av : List Value} {Q : Po} {σ : Mm} (cs : List (Nat × List Nat)) (k : Nat) (h : vc l G d mX12_goesOn TX12_goesOn Q cs k TX12_goesOn (lv_args 0 av) [] σ) (hlen : (lg_sl av).length ≤ mX12_goesOn.2.2.1 := by exact Nat.le_of_ble_eq_true rfl) : MW l G d mX12_goesOn av σ Q := mw_vc TX12_goesOn_ok mc_X12_goesOn rfl hlen cs k rfl h
theorem wX12_goesOn {l : Launch} {G : GT} {d : Nat} {Q : Po} {pc : Nat} {lv : Lv} {st : List Value} {σ : Mm} (cs : List (Nat × List Nat)) (k : Nat) (h : vc l G d mX12_goesOn TX12_goesOn Q cs k (drp TX12_goesOn pc) lv st σ) (hpc : hdp (drp TX12_goesOn pc) = pc := by rfl) : Wp l G d mX12_goesOn pc lv st σ Q := wp_vc TX12_goesOn_ok cs k hpc h
def TX12_mass : List In := [(0, 1, zt_aload 0), (1, 2, zt_ic 0), (2, 5, zt_putI 20 0), (5, 6, zt_aload 0), (6, 7, zt_aload 0), (7, 10, zt_getL 20 20), (10, 13, zt_callVF mX12_isOver 1 20), (13, 16, zt_if_ne 35), (16, 17, zt_aload 0), (17, 18, zt_iload 1), (18, 19, zt_iload 2), (19, 22, zt_callVF mX12_isNode 2 20), (22, 25, zt_if_eq 35), (25, 26, zt_iload 1), (26, 27, zt_aload 0), (27, 30, zt_getL 20 20), (30, 31, zt_ic 0), (31, 32, zt_iald), (32, 35, zt_icmp_ge 37), (35, 36, zt_ic (-1)), (36, 37, zt_iret), (37, 38, zt_aload 0), (38, 41, zt_callVF mX12_laysMasses 0 20), (41, 42, zt_aload 0), (42, 45, zt_getL 20 40), (45, 46, zt_iload 1), (46, 47, zt_iload 2), (47, 50, zt_callSF mX12_node 2), (50, 51, zt_iald), (51, 52, zt_iret)]
theorem TX12_mass_ok : ∀ i ∈ TX12_mass, Ent mX12_mass i := by
  refine List.forall_mem_cons.mpr ⟨ze_aload_n (k := 0) (by decide +kernel) rfl, ?_⟩
  refine List.forall_mem_cons.mpr ⟨ze_iconst (n := 0) (by decide +kernel) (by decide), ?_⟩
  refine List.forall_mem_cons.mpr ⟨ze_putI (by decide +kernel) fl_X12_82 ⟨_, _, _, rfl, rfl, by decide +kernel⟩ rfl, ?_⟩
  refine List.forall_mem_cons.mpr ⟨ze_aload_n (k := 0) (by decide +kernel) rfl, ?_⟩
  refine List.forall_mem_cons.mpr ⟨ze_aload_n (k := 0) (by decide +kernel) rfl, ?_⟩
  refine List.forall_mem_cons.mpr ⟨ze_getL (by decide +kernel) fl_X12_38 rfl (by decide), ?_⟩
  refine List.forall_mem_cons.mpr ⟨ze_callVF (idx := 304) (by decide +kernel) ml_X12_304 mv_X12_isOver rfl, ?_⟩
  refine List.forall_mem_cons.mpr ⟨ze_if_ne (off := 22) (by decide +kernel) (by decide), ?_⟩
  refine List.forall_mem_cons.mpr ⟨ze_aload_n (k := 0) (by decide +kernel) rfl, ?_⟩
  refine List.forall_mem_cons.mpr ⟨ze_iload_n (k := 1) (by decide +kernel) rfl, ?_⟩
  refine List.forall_mem_cons.mpr ⟨ze_iload_n (k := 2) (by decide +kernel) rfl, ?_⟩
  refine List.forall_mem_cons.mpr ⟨ze_callVF (idx := 206) (by decide +kernel) ml_X12_206 mv_X12_isNode rfl, ?_⟩
  refine List.forall_mem_cons.mpr ⟨ze_if_eq (off := 13) (by decide +kernel) (by decide), ?_⟩
  refine List.forall_mem_cons.mpr ⟨ze_iload_n (k := 1) (by decide +kernel) rfl, ?_⟩
  refine List.forall_mem_cons.mpr ⟨ze_aload_n (k := 0) (by decide +kernel) rfl, ?_⟩
  refine List.forall_mem_cons.mpr ⟨ze_getL (by decide +kernel) fl_X12_38 rfl (by decide), ?_⟩
  refine List.forall_mem_cons.mpr ⟨ze_iconst (n := 0) (by decide +kernel) (by decide), ?_⟩
  refine List.forall_mem_cons.mpr ⟨ze_iald (by decide +kernel), ?_⟩
  refine List.forall_mem_cons.mpr ⟨ze_icmp_ge (off := 5) (by decide +kernel) (by decide), ?_⟩
  refine List.forall_mem_cons.mpr ⟨ze_iconst (n := -1) (by decide +kernel) (by decide), ?_⟩
  refine List.forall_mem_cons.mpr ⟨ze_iret (by decide +kernel) rfl, ?_⟩
  refine List.forall_mem_cons.mpr ⟨ze_aload_n (k := 0) (by decide +kernel) rfl, ?_⟩
  refine List.forall_mem_cons.mpr ⟨ze_callVF (idx := 438) (by decide +kernel) ml_X12_438 mv_X12_laysMasses rfl, ?_⟩
  refine List.forall_mem_cons.mpr ⟨ze_aload_n (k := 0) (by decide +kernel) rfl, ?_⟩
  refine List.forall_mem_cons.mpr ⟨ze_getL (by decide +kernel) fl_X12_76 rfl (by decide), ?_⟩
  refine List.forall_mem_cons.mpr ⟨ze_iload_n (k := 1) (by decide +kernel) rfl, ?_⟩
  refine List.forall_mem_cons.mpr ⟨ze_iload_n (k := 2) (by decide +kernel) rfl, ?_⟩
  refine List.forall_mem_cons.mpr ⟨ze_callSF (idx := 210) (by decide +kernel) ml_X12_210 ms_X12_node, ?_⟩
  refine List.forall_mem_cons.mpr ⟨ze_iald (by decide +kernel), ?_⟩
  refine List.forall_mem_cons.mpr ⟨ze_iret (by decide +kernel) rfl, ?_⟩
  exact fun _ h => absurd h List.not_mem_nil
theorem vX12_mass {l : Launch} {G : GT} {d : Nat} {av : List Value} {Q : Po} {σ : Mm} (cs : List (Nat × List Nat)) (k : Nat) (h : vc l G d mX12_mass TX12_mass Q cs k TX12_mass (lv_args 0 av) [] σ) (hlen : (lg_sl av).length ≤ mX12_mass.2.2.1 := by exact Nat.le_of_ble_eq_true rfl) : MW l G d mX12_mass av σ Q := mw_vc TX12_mass_ok mc_X12_mass rfl hlen cs k rfl h
theorem wX12_mass {l : Launch} {G : GT} {d : Nat} {Q : Po} {pc : Nat} {lv : Lv} {st : List Value} {σ : Mm} (cs : List (Nat × List Nat)) (k : Nat) (h : vc l G d mX12_mass TX12_mass Q cs k (drp TX12_mass pc) lv st σ) (hpc : hdp (drp TX12_mass pc) = pc := by rfl) : Wp l G d mX12_mass pc lv st σ Q := wp_vc TX12_mass_ok cs k hpc h
def TX12_masses : List In := [(0, 1, zt_aload 0), (1, 2, zt_ic 0), (2, 5, zt_putI 20 0), (5, 6, zt_aload 0), (6, 7, zt_aload 0), (7, 10, zt_getL 20 20), (10, 13, zt_callVF mX12_isOver 1 20), (13, 16, zt_if_ne 28), (16, 17, zt_iload 1), (17, 18, zt_i2l), (18, 19, zt_lc 0), (19, 22, zt_lc (2 : Int64)), (22, 25, zt_callSF mX12_isIn 3), (25, 28, zt_if_ne 30), (28, 29, zt_ic (-1)), (29, 30, zt_iret), (30, 31, zt_aload 0), (31, 34, zt_callVF mX12_laysMasses 0 20), (34, 35, zt_iload 1), (35, 38, zt_if_ne 45), (38, 39, zt_aload 0), (39, 42, zt_getI 20 41), (42, 45, zt_goto 61), (45, 46, zt_iload 1), (46, 47, zt_ic 1), (47, 50, zt_icmp_ne 57), (50, 51, zt_aload 0), (51, 54, zt_getI 20 42), (54, 57, zt_goto 61), (57, 58, zt_aload 0), (58, 61, zt_getI 20 43), (61, 62, zt_iret)]
theorem TX12_masses_ok : ∀ i ∈ TX12_masses, Ent mX12_masses i := by
  refine List.forall_mem_cons.mpr ⟨ze_aload_n (k := 0) (by decide +kernel) rfl, ?_⟩
  refine List.forall_mem_cons.mpr ⟨ze_iconst (n := 0) (by decide +kernel) (by decide), ?_⟩
  refine List.forall_mem_cons.mpr ⟨ze_putI (by decide +kernel) fl_X12_82 ⟨_, _, _, rfl, rfl, by decide +kernel⟩ rfl, ?_⟩
  refine List.forall_mem_cons.mpr ⟨ze_aload_n (k := 0) (by decide +kernel) rfl, ?_⟩
  refine List.forall_mem_cons.mpr ⟨ze_aload_n (k := 0) (by decide +kernel) rfl, ?_⟩
  refine List.forall_mem_cons.mpr ⟨ze_getL (by decide +kernel) fl_X12_38 rfl (by decide), ?_⟩
  refine List.forall_mem_cons.mpr ⟨ze_callVF (idx := 304) (by decide +kernel) ml_X12_304 mv_X12_isOver rfl, ?_⟩
  refine List.forall_mem_cons.mpr ⟨ze_if_ne (off := 15) (by decide +kernel) (by decide), ?_⟩
  refine List.forall_mem_cons.mpr ⟨ze_iload_n (k := 1) (by decide +kernel) rfl, ?_⟩
  refine List.forall_mem_cons.mpr ⟨ze_i2l (by decide +kernel), ?_⟩
  refine List.forall_mem_cons.mpr ⟨ze_lconst (n := 0) (by decide +kernel) (by decide), ?_⟩
  refine List.forall_mem_cons.mpr ⟨ze_ldc2 (i := 191) (by decide +kernel) kc_X12_191, ?_⟩
  refine List.forall_mem_cons.mpr ⟨ze_callSF (idx := 148) (by decide +kernel) ml_X12_148 ms_X12_isIn, ?_⟩
  refine List.forall_mem_cons.mpr ⟨ze_if_ne (off := 5) (by decide +kernel) (by decide), ?_⟩
  refine List.forall_mem_cons.mpr ⟨ze_iconst (n := -1) (by decide +kernel) (by decide), ?_⟩
  refine List.forall_mem_cons.mpr ⟨ze_iret (by decide +kernel) rfl, ?_⟩
  refine List.forall_mem_cons.mpr ⟨ze_aload_n (k := 0) (by decide +kernel) rfl, ?_⟩
  refine List.forall_mem_cons.mpr ⟨ze_callVF (idx := 438) (by decide +kernel) ml_X12_438 mv_X12_laysMasses rfl, ?_⟩
  refine List.forall_mem_cons.mpr ⟨ze_iload_n (k := 1) (by decide +kernel) rfl, ?_⟩
  refine List.forall_mem_cons.mpr ⟨ze_if_ne (off := 10) (by decide +kernel) (by decide), ?_⟩
  refine List.forall_mem_cons.mpr ⟨ze_aload_n (k := 0) (by decide +kernel) rfl, ?_⟩
  refine List.forall_mem_cons.mpr ⟨ze_getI (by decide +kernel) fl_X12_423 rfl, ?_⟩
  refine List.forall_mem_cons.mpr ⟨ze_goto (off := 19) (by decide +kernel) (by decide), ?_⟩
  refine List.forall_mem_cons.mpr ⟨ze_iload_n (k := 1) (by decide +kernel) rfl, ?_⟩
  refine List.forall_mem_cons.mpr ⟨ze_iconst (n := 1) (by decide +kernel) (by decide), ?_⟩
  refine List.forall_mem_cons.mpr ⟨ze_icmp_ne (off := 10) (by decide +kernel) (by decide), ?_⟩
  refine List.forall_mem_cons.mpr ⟨ze_aload_n (k := 0) (by decide +kernel) rfl, ?_⟩
  refine List.forall_mem_cons.mpr ⟨ze_getI (by decide +kernel) fl_X12_426 rfl, ?_⟩
  refine List.forall_mem_cons.mpr ⟨ze_goto (off := 7) (by decide +kernel) (by decide), ?_⟩
  refine List.forall_mem_cons.mpr ⟨ze_aload_n (k := 0) (by decide +kernel) rfl, ?_⟩
  refine List.forall_mem_cons.mpr ⟨ze_getI (by decide +kernel) fl_X12_429 rfl, ?_⟩
  refine List.forall_mem_cons.mpr ⟨ze_iret (by decide +kernel) rfl, ?_⟩
  exact fun _ h => absurd h List.not_mem_nil
theorem vX12_masses {l : Launch} {G : GT} {d : Nat} {av : List Value} {Q : Po} {σ : Mm} (cs : List (Nat × List Nat)) (k : Nat) (h : vc l G d mX12_masses TX12_masses Q cs k TX12_masses (lv_args 0 av) [] σ) (hlen : (lg_sl av).length ≤ mX12_masses.2.2.1 := by exact Nat.le_of_ble_eq_true rfl) : MW l G d mX12_masses av σ Q := mw_vc TX12_masses_ok mc_X12_masses rfl hlen cs k rfl h
theorem wX12_masses {l : Launch} {G : GT} {d : Nat} {Q : Po} {pc : Nat} {lv : Lv} {st : List Value} {σ : Mm} (cs : List (Nat × List Nat)) (k : Nat) (h : vc l G d mX12_masses TX12_masses Q cs k (drp TX12_masses pc) lv st σ) (hpc : hdp (drp TX12_masses pc) = pc := by rfl) : Wp l G d mX12_masses pc lv st σ Q := wp_vc TX12_masses_ok cs k hpc h
def TX12_ending : List In := [(0, 1, zt_aload 0), (1, 2, zt_ic 0), (2, 5, zt_putI 20 0), (5, 6, zt_aload 0), (6, 7, zt_aload 0), (7, 10, zt_getL 20 20), (10, 13, zt_callVF mX12_isOver 1 20), (13, 16, zt_if_ne 50), (16, 17, zt_iload 1), (17, 18, zt_i2l), (18, 19, zt_aload 0), (19, 22, zt_getL 20 20), (22, 23, zt_ic 0), (23, 24, zt_iald), (24, 25, zt_i2l), (25, 26, zt_aload 0), (26, 29, zt_getL 20 6), (29, 30, zt_ic 1), (30, 31, zt_iald), (31, 32, zt_ic 1), (32, 33, zt_isub), (33, 34, zt_i2l), (34, 37, zt_callSF mX12_isIn 3), (37, 40, zt_if_eq 50), (40, 41, zt_iload 2), (41, 42, zt_i2l), (42, 43, zt_lc 0), (43, 44, zt_lc 1), (44, 47, zt_callSF mX12_isIn 3), (47, 50, zt_if_ne 52), (50, 51, zt_ic (-1)), (51, 52, zt_iret), (52, 53, zt_aload 0), (53, 56, zt_callVF mX12_laysMasses 0 20), (56, 57, zt_ic 0), (57, 58, zt_istoreF 3), (58, 59, zt_ic 0), (59, 61, zt_istoreF 4), (61, 63, zt_iload 4), (63, 64, zt_iload 1), (64, 67, zt_icmp_gt 121), (67, 68, zt_aload 0), (68, 69, zt_aload 0), (69, 72, zt_getL 20 20), (72, 73, zt_aload 0), (73, 76, zt_getL 20 31), (76, 77, zt_aload 0), (77, 80, zt_getL 20 20), (80, 81, zt_ic 3), (81, 82, zt_iald), (82, 83, zt_ic 0), (83, 84, zt_aload 0), (84, 87, zt_getL 20 20), (87, 88, zt_ic 2), (88, 89, zt_iald), (89, 90, zt_iload 1), (90, 92, zt_iload 4), (92, 95, zt_callVF mX12_bestDeed 7 20), (95, 96, zt_iload 2), (96, 97, zt_ic 1), (97, 98, zt_iadd), (98, 101, zt_icmp_ne 115), (101, 102, zt_iload 3), (102, 103, zt_aload 0), (103, 106, zt_getL 20 40), (106, 107, zt_iload 1), (107, 109, zt_iload 4), (109, 112, zt_callSF mX12_node 2), (112, 113, zt_iald), (113, 114, zt_iadd), (114, 115, zt_istoreF 3), (115, 118, zt_iincF 4 1), (118, 121, zt_goto 61), (121, 122, zt_iload 3), (122, 123, zt_iret)]
theorem TX12_ending_ok : ∀ i ∈ TX12_ending, Ent mX12_ending i := by
  refine List.forall_mem_cons.mpr ⟨ze_aload_n (k := 0) (by decide +kernel) rfl, ?_⟩
  refine List.forall_mem_cons.mpr ⟨ze_iconst (n := 0) (by decide +kernel) (by decide), ?_⟩
  refine List.forall_mem_cons.mpr ⟨ze_putI (by decide +kernel) fl_X12_82 ⟨_, _, _, rfl, rfl, by decide +kernel⟩ rfl, ?_⟩
  refine List.forall_mem_cons.mpr ⟨ze_aload_n (k := 0) (by decide +kernel) rfl, ?_⟩
  refine List.forall_mem_cons.mpr ⟨ze_aload_n (k := 0) (by decide +kernel) rfl, ?_⟩
  refine List.forall_mem_cons.mpr ⟨ze_getL (by decide +kernel) fl_X12_38 rfl (by decide), ?_⟩
  refine List.forall_mem_cons.mpr ⟨ze_callVF (idx := 304) (by decide +kernel) ml_X12_304 mv_X12_isOver rfl, ?_⟩
  refine List.forall_mem_cons.mpr ⟨ze_if_ne (off := 37) (by decide +kernel) (by decide), ?_⟩
  refine List.forall_mem_cons.mpr ⟨ze_iload_n (k := 1) (by decide +kernel) rfl, ?_⟩
  refine List.forall_mem_cons.mpr ⟨ze_i2l (by decide +kernel), ?_⟩
  refine List.forall_mem_cons.mpr ⟨ze_aload_n (k := 0) (by decide +kernel) rfl, ?_⟩
  refine List.forall_mem_cons.mpr ⟨ze_getL (by decide +kernel) fl_X12_38 rfl (by decide), ?_⟩
  refine List.forall_mem_cons.mpr ⟨ze_iconst (n := 0) (by decide +kernel) (by decide), ?_⟩
  refine List.forall_mem_cons.mpr ⟨ze_iald (by decide +kernel), ?_⟩
  refine List.forall_mem_cons.mpr ⟨ze_i2l (by decide +kernel), ?_⟩
  refine List.forall_mem_cons.mpr ⟨ze_aload_n (k := 0) (by decide +kernel) rfl, ?_⟩
  refine List.forall_mem_cons.mpr ⟨ze_getL (by decide +kernel) fl_X12_17 rfl (by decide), ?_⟩
  refine List.forall_mem_cons.mpr ⟨ze_iconst (n := 1) (by decide +kernel) (by decide), ?_⟩
  refine List.forall_mem_cons.mpr ⟨ze_iald (by decide +kernel), ?_⟩
  refine List.forall_mem_cons.mpr ⟨ze_iconst (n := 1) (by decide +kernel) (by decide), ?_⟩
  refine List.forall_mem_cons.mpr ⟨ze_isub (by decide +kernel), ?_⟩
  refine List.forall_mem_cons.mpr ⟨ze_i2l (by decide +kernel), ?_⟩
  refine List.forall_mem_cons.mpr ⟨ze_callSF (idx := 148) (by decide +kernel) ml_X12_148 ms_X12_isIn, ?_⟩
  refine List.forall_mem_cons.mpr ⟨ze_if_eq (off := 13) (by decide +kernel) (by decide), ?_⟩
  refine List.forall_mem_cons.mpr ⟨ze_iload_n (k := 2) (by decide +kernel) rfl, ?_⟩
  refine List.forall_mem_cons.mpr ⟨ze_i2l (by decide +kernel), ?_⟩
  refine List.forall_mem_cons.mpr ⟨ze_lconst (n := 0) (by decide +kernel) (by decide), ?_⟩
  refine List.forall_mem_cons.mpr ⟨ze_lconst (n := 1) (by decide +kernel) (by decide), ?_⟩
  refine List.forall_mem_cons.mpr ⟨ze_callSF (idx := 148) (by decide +kernel) ml_X12_148 ms_X12_isIn, ?_⟩
  refine List.forall_mem_cons.mpr ⟨ze_if_ne (off := 5) (by decide +kernel) (by decide), ?_⟩
  refine List.forall_mem_cons.mpr ⟨ze_iconst (n := -1) (by decide +kernel) (by decide), ?_⟩
  refine List.forall_mem_cons.mpr ⟨ze_iret (by decide +kernel) rfl, ?_⟩
  refine List.forall_mem_cons.mpr ⟨ze_aload_n (k := 0) (by decide +kernel) rfl, ?_⟩
  refine List.forall_mem_cons.mpr ⟨ze_callVF (idx := 438) (by decide +kernel) ml_X12_438 mv_X12_laysMasses rfl, ?_⟩
  refine List.forall_mem_cons.mpr ⟨ze_iconst (n := 0) (by decide +kernel) (by decide), ?_⟩
  refine List.forall_mem_cons.mpr ⟨ze_istoreF_n (k := 3) (by decide +kernel) rfl (by decide), ?_⟩
  refine List.forall_mem_cons.mpr ⟨ze_iconst (n := 0) (by decide +kernel) (by decide), ?_⟩
  refine List.forall_mem_cons.mpr ⟨ze_istoreF (by decide +kernel) (by decide), ?_⟩
  refine List.forall_mem_cons.mpr ⟨ze_iload (by decide +kernel), ?_⟩
  refine List.forall_mem_cons.mpr ⟨ze_iload_n (k := 1) (by decide +kernel) rfl, ?_⟩
  refine List.forall_mem_cons.mpr ⟨ze_icmp_gt (off := 57) (by decide +kernel) (by decide), ?_⟩
  refine List.forall_mem_cons.mpr ⟨ze_aload_n (k := 0) (by decide +kernel) rfl, ?_⟩
  refine List.forall_mem_cons.mpr ⟨ze_aload_n (k := 0) (by decide +kernel) rfl, ?_⟩
  refine List.forall_mem_cons.mpr ⟨ze_getL (by decide +kernel) fl_X12_38 rfl (by decide), ?_⟩
  refine List.forall_mem_cons.mpr ⟨ze_aload_n (k := 0) (by decide +kernel) rfl, ?_⟩
  refine List.forall_mem_cons.mpr ⟨ze_getL (by decide +kernel) fl_X12_60 rfl (by decide), ?_⟩
  refine List.forall_mem_cons.mpr ⟨ze_aload_n (k := 0) (by decide +kernel) rfl, ?_⟩
  refine List.forall_mem_cons.mpr ⟨ze_getL (by decide +kernel) fl_X12_38 rfl (by decide), ?_⟩
  refine List.forall_mem_cons.mpr ⟨ze_iconst (n := 3) (by decide +kernel) (by decide), ?_⟩
  refine List.forall_mem_cons.mpr ⟨ze_iald (by decide +kernel), ?_⟩
  refine List.forall_mem_cons.mpr ⟨ze_iconst (n := 0) (by decide +kernel) (by decide), ?_⟩
  refine List.forall_mem_cons.mpr ⟨ze_aload_n (k := 0) (by decide +kernel) rfl, ?_⟩
  refine List.forall_mem_cons.mpr ⟨ze_getL (by decide +kernel) fl_X12_38 rfl (by decide), ?_⟩
  refine List.forall_mem_cons.mpr ⟨ze_iconst (n := 2) (by decide +kernel) (by decide), ?_⟩
  refine List.forall_mem_cons.mpr ⟨ze_iald (by decide +kernel), ?_⟩
  refine List.forall_mem_cons.mpr ⟨ze_iload_n (k := 1) (by decide +kernel) rfl, ?_⟩
  refine List.forall_mem_cons.mpr ⟨ze_iload (by decide +kernel), ?_⟩
  refine List.forall_mem_cons.mpr ⟨ze_callVF (idx := 285) (by decide +kernel) ml_X12_285 mv_X12_bestDeed rfl, ?_⟩
  refine List.forall_mem_cons.mpr ⟨ze_iload_n (k := 2) (by decide +kernel) rfl, ?_⟩
  refine List.forall_mem_cons.mpr ⟨ze_iconst (n := 1) (by decide +kernel) (by decide), ?_⟩
  refine List.forall_mem_cons.mpr ⟨ze_iadd (by decide +kernel), ?_⟩
  refine List.forall_mem_cons.mpr ⟨ze_icmp_ne (off := 17) (by decide +kernel) (by decide), ?_⟩
  refine List.forall_mem_cons.mpr ⟨ze_iload_n (k := 3) (by decide +kernel) rfl, ?_⟩
  refine List.forall_mem_cons.mpr ⟨ze_aload_n (k := 0) (by decide +kernel) rfl, ?_⟩
  refine List.forall_mem_cons.mpr ⟨ze_getL (by decide +kernel) fl_X12_76 rfl (by decide), ?_⟩
  refine List.forall_mem_cons.mpr ⟨ze_iload_n (k := 1) (by decide +kernel) rfl, ?_⟩
  refine List.forall_mem_cons.mpr ⟨ze_iload (by decide +kernel), ?_⟩
  refine List.forall_mem_cons.mpr ⟨ze_callSF (idx := 210) (by decide +kernel) ml_X12_210 ms_X12_node, ?_⟩
  refine List.forall_mem_cons.mpr ⟨ze_iald (by decide +kernel), ?_⟩
  refine List.forall_mem_cons.mpr ⟨ze_iadd (by decide +kernel), ?_⟩
  refine List.forall_mem_cons.mpr ⟨ze_istoreF_n (k := 3) (by decide +kernel) rfl (by decide), ?_⟩
  refine List.forall_mem_cons.mpr ⟨ze_iincF (n := 1) (by decide +kernel) (by decide) (by decide), ?_⟩
  refine List.forall_mem_cons.mpr ⟨ze_goto (off := -57) (by decide +kernel) (by decide), ?_⟩
  refine List.forall_mem_cons.mpr ⟨ze_iload_n (k := 3) (by decide +kernel) rfl, ?_⟩
  refine List.forall_mem_cons.mpr ⟨ze_iret (by decide +kernel) rfl, ?_⟩
  exact fun _ h => absurd h List.not_mem_nil
theorem vX12_ending {l : Launch} {G : GT} {d : Nat} {av : List Value} {Q : Po} {σ : Mm} (cs : List (Nat × List Nat)) (k : Nat) (h : vc l G d mX12_ending TX12_ending Q cs k TX12_ending (lv_args 0 av) [] σ) (hlen : (lg_sl av).length ≤ mX12_ending.2.2.1 := by exact Nat.le_of_ble_eq_true rfl) : MW l G d mX12_ending av σ Q := mw_vc TX12_ending_ok mc_X12_ending rfl hlen cs k rfl h
theorem wX12_ending {l : Launch} {G : GT} {d : Nat} {Q : Po} {pc : Nat} {lv : Lv} {st : List Value} {σ : Mm} (cs : List (Nat × List Nat)) (k : Nat) (h : vc l G d mX12_ending TX12_ending Q cs k (drp TX12_ending pc) lv st σ) (hpc : hdp (drp TX12_ending pc) = pc := by rfl) : Wp l G d mX12_ending pc lv st σ Q := wp_vc TX12_ending_ok cs k hpc h
def TX12_here_ : List In := [(0, 1, zt_aload 1), (1, 2, zt_aload 0), (2, 5, zt_getL 20 20), (5, 6, zt_ic 3), (6, 7, zt_iald), (7, 8, zt_ic 0), (8, 9, zt_aload 0), (9, 12, zt_getL 20 20), (12, 13, zt_ic 0), (13, 14, zt_iald), (14, 15, zt_aload 0), (15, 18, zt_getL 20 20), (18, 19, zt_ic 1), (19, 20, zt_iald), (20, 23, zt_callSF mX12_cell 4), (23, 24, zt_lald), (24, 25, zt_lret)]
theorem TX12_here__ok : ∀ i ∈ TX12_here_, Ent mX12_here_ i := by
  refine List.forall_mem_cons.mpr ⟨ze_aload_n (k := 1) (by decide +kernel) rfl, ?_⟩
  refine List.forall_mem_cons.mpr ⟨ze_aload_n (k := 0) (by decide +kernel) rfl, ?_⟩
  refine List.forall_mem_cons.mpr ⟨ze_getL (by decide +kernel) fl_X12_38 rfl (by decide), ?_⟩
  refine List.forall_mem_cons.mpr ⟨ze_iconst (n := 3) (by decide +kernel) (by decide), ?_⟩
  refine List.forall_mem_cons.mpr ⟨ze_iald (by decide +kernel), ?_⟩
  refine List.forall_mem_cons.mpr ⟨ze_iconst (n := 0) (by decide +kernel) (by decide), ?_⟩
  refine List.forall_mem_cons.mpr ⟨ze_aload_n (k := 0) (by decide +kernel) rfl, ?_⟩
  refine List.forall_mem_cons.mpr ⟨ze_getL (by decide +kernel) fl_X12_38 rfl (by decide), ?_⟩
  refine List.forall_mem_cons.mpr ⟨ze_iconst (n := 0) (by decide +kernel) (by decide), ?_⟩
  refine List.forall_mem_cons.mpr ⟨ze_iald (by decide +kernel), ?_⟩
  refine List.forall_mem_cons.mpr ⟨ze_aload_n (k := 0) (by decide +kernel) rfl, ?_⟩
  refine List.forall_mem_cons.mpr ⟨ze_getL (by decide +kernel) fl_X12_38 rfl (by decide), ?_⟩
  refine List.forall_mem_cons.mpr ⟨ze_iconst (n := 1) (by decide +kernel) (by decide), ?_⟩
  refine List.forall_mem_cons.mpr ⟨ze_iald (by decide +kernel), ?_⟩
  refine List.forall_mem_cons.mpr ⟨ze_callSF (idx := 246) (by decide +kernel) ml_X12_246 ms_X12_cell, ?_⟩
  refine List.forall_mem_cons.mpr ⟨ze_lald (by decide +kernel), ?_⟩
  refine List.forall_mem_cons.mpr ⟨ze_lret (by decide +kernel) rfl, ?_⟩
  exact fun _ h => absurd h List.not_mem_nil
theorem vX12_here_ {l : Launch} {G : GT} {d : Nat} {av : List Value} {Q : Po} {σ : Mm} (cs : List (Nat × List Nat)) (k : Nat) (h : vc l G d mX12_here_ TX12_here_ Q cs k TX12_here_ (lv_args 0 av) [] σ) (hlen : (lg_sl av).length ≤ mX12_here_.2.2.1 := by exact Nat.le_of_ble_eq_true rfl) : MW l G d mX12_here_ av σ Q := mw_vc TX12_here__ok mc_X12_here_ rfl hlen cs k rfl h
theorem wX12_here_ {l : Launch} {G : GT} {d : Nat} {Q : Po} {pc : Nat} {lv : Lv} {st : List Value} {σ : Mm} (cs : List (Nat × List Nat)) (k : Nat) (h : vc l G d mX12_here_ TX12_here_ Q cs k (drp TX12_here_ pc) lv st σ) (hpc : hdp (drp TX12_here_ pc) = pc := by rfl) : Wp l G d mX12_here_ pc lv st σ Q := wp_vc TX12_here__ok cs k hpc h
def TX12_worth : List In := [(0, 1, zt_aload 0), (1, 2, zt_ic 0), (2, 5, zt_putI 20 0), (5, 6, zt_aload 0), (6, 7, zt_aload 0), (7, 10, zt_getL 20 20), (10, 13, zt_callVF mX12_isOver 1 20), (13, 16, zt_if_eq 20), (16, 19, zt_lc (-1 : Int64)), (19, 20, zt_lret), (20, 21, zt_aload 0), (21, 24, zt_getL 20 20), (24, 25, zt_ic 0), (25, 26, zt_aload 0), (26, 29, zt_getL 20 21), (29, 30, zt_ic 0), (30, 33, zt_callSF mX12_copyRow 4), (33, 34, zt_ic 0), (34, 35, zt_istoreF 1), (35, 36, zt_iload 1), (36, 39, zt_ic 144), (39, 42, zt_icmp_ge 59), (42, 43, zt_aload 0), (43, 46, zt_getL 20 21), (46, 49, zt_ic 169), (49, 50, zt_iload 1), (50, 51, zt_iadd), (51, 52, zt_ic 0), (52, 53, zt_iastoreF), (53, 56, zt_iincF 1 1), (56, 59, zt_goto 35), (59, 60, zt_aload 0), (60, 61, zt_aload 0), (61, 64, zt_getL 20 21), (64, 67, zt_callVF mX12_laysPolicy 1 20), (67, 68, zt_aload 0), (68, 71, zt_callVF mX12_laysNow 0 20), (71, 72, zt_aload 0), (72, 73, zt_aload 0), (73, 76, zt_getL 20 32), (76, 79, zt_callVF mX12_here_ 1 20), (79, 80, zt_aload 0), (80, 81, zt_aload 0), (81, 84, zt_getL 20 31), (84, 87, zt_callVF mX12_here_ 1 20), (87, 88, zt_lsub), (88, 89, zt_lret)]
theorem TX12_worth_ok : ∀ i ∈ TX12_worth, Ent mX12_worth i := by
  refine List.forall_mem_cons.mpr ⟨ze_aload_n (k := 0) (by decide +kernel) rfl, ?_⟩
  refine List.forall_mem_cons.mpr ⟨ze_iconst (n := 0) (by decide +kernel) (by decide), ?_⟩
  refine List.forall_mem_cons.mpr ⟨ze_putI (by decide +kernel) fl_X12_82 ⟨_, _, _, rfl, rfl, by decide +kernel⟩ rfl, ?_⟩
  refine List.forall_mem_cons.mpr ⟨ze_aload_n (k := 0) (by decide +kernel) rfl, ?_⟩
  refine List.forall_mem_cons.mpr ⟨ze_aload_n (k := 0) (by decide +kernel) rfl, ?_⟩
  refine List.forall_mem_cons.mpr ⟨ze_getL (by decide +kernel) fl_X12_38 rfl (by decide), ?_⟩
  refine List.forall_mem_cons.mpr ⟨ze_callVF (idx := 304) (by decide +kernel) ml_X12_304 mv_X12_isOver rfl, ?_⟩
  refine List.forall_mem_cons.mpr ⟨ze_if_eq (off := 7) (by decide +kernel) (by decide), ?_⟩
  refine List.forall_mem_cons.mpr ⟨ze_ldc2 (i := 397) (by decide +kernel) kc_X12_397, ?_⟩
  refine List.forall_mem_cons.mpr ⟨ze_lret (by decide +kernel) rfl, ?_⟩
  refine List.forall_mem_cons.mpr ⟨ze_aload_n (k := 0) (by decide +kernel) rfl, ?_⟩
  refine List.forall_mem_cons.mpr ⟨ze_getL (by decide +kernel) fl_X12_38 rfl (by decide), ?_⟩
  refine List.forall_mem_cons.mpr ⟨ze_iconst (n := 0) (by decide +kernel) (by decide), ?_⟩
  refine List.forall_mem_cons.mpr ⟨ze_aload_n (k := 0) (by decide +kernel) rfl, ?_⟩
  refine List.forall_mem_cons.mpr ⟨ze_getL (by decide +kernel) fl_X12_41 rfl (by decide), ?_⟩
  refine List.forall_mem_cons.mpr ⟨ze_iconst (n := 0) (by decide +kernel) (by decide), ?_⟩
  refine List.forall_mem_cons.mpr ⟨ze_callSF (idx := 353) (by decide +kernel) ml_X12_353 ms_X12_copyRow, ?_⟩
  refine List.forall_mem_cons.mpr ⟨ze_iconst (n := 0) (by decide +kernel) (by decide), ?_⟩
  refine List.forall_mem_cons.mpr ⟨ze_istoreF_n (k := 1) (by decide +kernel) rfl (by decide), ?_⟩
  refine List.forall_mem_cons.mpr ⟨ze_iload_n (k := 1) (by decide +kernel) rfl, ?_⟩
  refine List.forall_mem_cons.mpr ⟨ze_sipush (n := 144) (by decide +kernel) (by decide), ?_⟩
  refine List.forall_mem_cons.mpr ⟨ze_icmp_ge (off := 20) (by decide +kernel) (by decide), ?_⟩
  refine List.forall_mem_cons.mpr ⟨ze_aload_n (k := 0) (by decide +kernel) rfl, ?_⟩
  refine List.forall_mem_cons.mpr ⟨ze_getL (by decide +kernel) fl_X12_41 rfl (by decide), ?_⟩
  refine List.forall_mem_cons.mpr ⟨ze_sipush (n := 169) (by decide +kernel) (by decide), ?_⟩
  refine List.forall_mem_cons.mpr ⟨ze_iload_n (k := 1) (by decide +kernel) rfl, ?_⟩
  refine List.forall_mem_cons.mpr ⟨ze_iadd (by decide +kernel), ?_⟩
  refine List.forall_mem_cons.mpr ⟨ze_iconst (n := 0) (by decide +kernel) (by decide), ?_⟩
  refine List.forall_mem_cons.mpr ⟨ze_iastoreF (by decide +kernel), ?_⟩
  refine List.forall_mem_cons.mpr ⟨ze_iincF (n := 1) (by decide +kernel) (by decide) (by decide), ?_⟩
  refine List.forall_mem_cons.mpr ⟨ze_goto (off := -21) (by decide +kernel) (by decide), ?_⟩
  refine List.forall_mem_cons.mpr ⟨ze_aload_n (k := 0) (by decide +kernel) rfl, ?_⟩
  refine List.forall_mem_cons.mpr ⟨ze_aload_n (k := 0) (by decide +kernel) rfl, ?_⟩
  refine List.forall_mem_cons.mpr ⟨ze_getL (by decide +kernel) fl_X12_41 rfl (by decide), ?_⟩
  refine List.forall_mem_cons.mpr ⟨ze_callVF (idx := 441) (by decide +kernel) ml_X12_441 mv_X12_laysPolicy rfl, ?_⟩
  refine List.forall_mem_cons.mpr ⟨ze_aload_n (k := 0) (by decide +kernel) rfl, ?_⟩
  refine List.forall_mem_cons.mpr ⟨ze_callVF (idx := 399) (by decide +kernel) ml_X12_399 mv_X12_laysNow rfl, ?_⟩
  refine List.forall_mem_cons.mpr ⟨ze_aload_n (k := 0) (by decide +kernel) rfl, ?_⟩
  refine List.forall_mem_cons.mpr ⟨ze_aload_n (k := 0) (by decide +kernel) rfl, ?_⟩
  refine List.forall_mem_cons.mpr ⟨ze_getL (by decide +kernel) fl_X12_64 rfl (by decide), ?_⟩
  refine List.forall_mem_cons.mpr ⟨ze_callVF (idx := 444) (by decide +kernel) ml_X12_444 mv_X12_here_ rfl, ?_⟩
  refine List.forall_mem_cons.mpr ⟨ze_aload_n (k := 0) (by decide +kernel) rfl, ?_⟩
  refine List.forall_mem_cons.mpr ⟨ze_aload_n (k := 0) (by decide +kernel) rfl, ?_⟩
  refine List.forall_mem_cons.mpr ⟨ze_getL (by decide +kernel) fl_X12_60 rfl (by decide), ?_⟩
  refine List.forall_mem_cons.mpr ⟨ze_callVF (idx := 444) (by decide +kernel) ml_X12_444 mv_X12_here_ rfl, ?_⟩
  refine List.forall_mem_cons.mpr ⟨ze_lsub (by decide +kernel), ?_⟩
  refine List.forall_mem_cons.mpr ⟨ze_lret (by decide +kernel) rfl, ?_⟩
  exact fun _ h => absurd h List.not_mem_nil
theorem vX12_worth {l : Launch} {G : GT} {d : Nat} {av : List Value} {Q : Po} {σ : Mm} (cs : List (Nat × List Nat)) (k : Nat) (h : vc l G d mX12_worth TX12_worth Q cs k TX12_worth (lv_args 0 av) [] σ) (hlen : (lg_sl av).length ≤ mX12_worth.2.2.1 := by exact Nat.le_of_ble_eq_true rfl) : MW l G d mX12_worth av σ Q := mw_vc TX12_worth_ok mc_X12_worth rfl hlen cs k rfl h
theorem wX12_worth {l : Launch} {G : GT} {d : Nat} {Q : Po} {pc : Nat} {lv : Lv} {st : List Value} {σ : Mm} (cs : List (Nat × List Nat)) (k : Nat) (h : vc l G d mX12_worth TX12_worth Q cs k (drp TX12_worth pc) lv st σ) (hpc : hdp (drp TX12_worth pc) = pc := by rfl) : Wp l G d mX12_worth pc lv st σ Q := wp_vc TX12_worth_ok cs k hpc h
def TX12_margin : List In := [(0, 1, zt_aload 0), (1, 2, zt_ic 0), (2, 5, zt_putI 20 0), (5, 6, zt_aload 0), (6, 7, zt_aload 0), (7, 10, zt_getL 20 20), (10, 13, zt_callVF mX12_isOver 1 20), (13, 16, zt_if_ne 29), (16, 17, zt_aload 0), (17, 18, zt_aload 0), (18, 21, zt_getL 20 20), (21, 22, zt_ic 0), (22, 23, zt_iald), (23, 26, zt_callVF mX12_mayEnd 1 20), (26, 29, zt_if_ne 33), (29, 32, zt_lc (-1000000 : Int64)), (32, 33, zt_lret), (33, 34, zt_aload 0), (34, 37, zt_callVF mX12_laysNow 0 20), (37, 38, zt_aload 0), (38, 39, zt_aload 0), (39, 42, zt_getL 20 20), (42, 43, zt_aload 0), (43, 46, zt_getL 20 31), (46, 47, zt_ic 1), (47, 48, zt_aload 0), (48, 51, zt_getL 20 20), (51, 52, zt_ic 3), (52, 53, zt_iald), (53, 54, zt_ic 0), (54, 55, zt_aload 0), (55, 58, zt_getL 20 20), (58, 59, zt_ic 2), (59, 60, zt_iald), (60, 61, zt_aload 0), (61, 64, zt_getL 20 20), (64, 65, zt_ic 0), (65, 66, zt_iald), (66, 67, zt_aload 0), (67, 70, zt_getL 20 20), (70, 71, zt_ic 1), (71, 72, zt_iald), (72, 75, zt_callVF mX12_costBy 8 20), (75, 76, zt_lstoreF 1), (76, 77, zt_aload 0), (77, 80, zt_getL 20 20), (80, 81, zt_ic 3), (81, 82, zt_iald), (82, 85, zt_if_le 132), (85, 86, zt_aload 0), (86, 87, zt_aload 0), (87, 90, zt_getL 20 20), (90, 91, zt_aload 0), (91, 94, zt_getL 20 31), (94, 95, zt_ic 2), (95, 96, zt_aload 0), (96, 99, zt_getL 20 20), (99, 100, zt_ic 3), (100, 101, zt_iald), (101, 102, zt_ic 0), (102, 103, zt_aload 0), (103, 106, zt_getL 20 20), (106, 107, zt_ic 2), (107, 108, zt_iald), (108, 109, zt_aload 0), (109, 112, zt_getL 20 20), (112, 113, zt_ic 0), (113, 114, zt_iald), (114, 115, zt_aload 0), (115, 118, zt_getL 20 20), (118, 119, zt_ic 1), (119, 120, zt_iald), (120, 123, zt_callVF mX12_costBy 8 20), (123, 124, zt_lstoreF 3), (124, 125, zt_lload 3), (125, 126, zt_lload 1), (126, 127, zt_lcmp), (127, 130, zt_if_ge 132), (130, 131, zt_lload 3), (131, 132, zt_lstoreF 1), (132, 133, zt_aload 0), (133, 134, zt_aload 0), (134, 137, zt_getL 20 20), (137, 138, zt_aload 0), (138, 141, zt_getL 20 31), (141, 142, zt_ic 0), (142, 143, zt_aload 0), (143, 146, zt_getL 20 20), (146, 147, zt_ic 3), (147, 148, zt_iald), (148, 149, zt_ic 0), (149, 150, zt_aload 0), (150, 153, zt_getL 20 20), (153, 154, zt_ic 2), (154, 155, zt_iald), (155, 156, zt_aload 0), (156, 159, zt_getL 20 20), (159, 160, zt_ic 0), (160, 161, zt_iald), (161, 162, zt_aload 0), (162, 165, zt_getL 20 20), (165, 166, zt_ic 1), (166, 167, zt_iald), (167, 170, zt_callVF mX12_costBy 8 20), (170, 171, zt_lload 1), (171, 172, zt_lsub), (172, 173, zt_lret)]
theorem TX12_margin_ok : ∀ i ∈ TX12_margin, Ent mX12_margin i := by
  refine List.forall_mem_cons.mpr ⟨ze_aload_n (k := 0) (by decide +kernel) rfl, ?_⟩
  refine List.forall_mem_cons.mpr ⟨ze_iconst (n := 0) (by decide +kernel) (by decide), ?_⟩
  refine List.forall_mem_cons.mpr ⟨ze_putI (by decide +kernel) fl_X12_82 ⟨_, _, _, rfl, rfl, by decide +kernel⟩ rfl, ?_⟩
  refine List.forall_mem_cons.mpr ⟨ze_aload_n (k := 0) (by decide +kernel) rfl, ?_⟩
  refine List.forall_mem_cons.mpr ⟨ze_aload_n (k := 0) (by decide +kernel) rfl, ?_⟩
  refine List.forall_mem_cons.mpr ⟨ze_getL (by decide +kernel) fl_X12_38 rfl (by decide), ?_⟩
  refine List.forall_mem_cons.mpr ⟨ze_callVF (idx := 304) (by decide +kernel) ml_X12_304 mv_X12_isOver rfl, ?_⟩
  refine List.forall_mem_cons.mpr ⟨ze_if_ne (off := 16) (by decide +kernel) (by decide), ?_⟩
  refine List.forall_mem_cons.mpr ⟨ze_aload_n (k := 0) (by decide +kernel) rfl, ?_⟩
  refine List.forall_mem_cons.mpr ⟨ze_aload_n (k := 0) (by decide +kernel) rfl, ?_⟩
  refine List.forall_mem_cons.mpr ⟨ze_getL (by decide +kernel) fl_X12_38 rfl (by decide), ?_⟩
  refine List.forall_mem_cons.mpr ⟨ze_iconst (n := 0) (by decide +kernel) (by decide), ?_⟩
  refine List.forall_mem_cons.mpr ⟨ze_iald (by decide +kernel), ?_⟩
  refine List.forall_mem_cons.mpr ⟨ze_callVF (idx := 265) (by decide +kernel) ml_X12_265 mv_X12_mayEnd rfl, ?_⟩
  refine List.forall_mem_cons.mpr ⟨ze_if_ne (off := 7) (by decide +kernel) (by decide), ?_⟩
  refine List.forall_mem_cons.mpr ⟨ze_ldc2 (i := 395) (by decide +kernel) kc_X12_395, ?_⟩
  refine List.forall_mem_cons.mpr ⟨ze_lret (by decide +kernel) rfl, ?_⟩
  refine List.forall_mem_cons.mpr ⟨ze_aload_n (k := 0) (by decide +kernel) rfl, ?_⟩
  refine List.forall_mem_cons.mpr ⟨ze_callVF (idx := 399) (by decide +kernel) ml_X12_399 mv_X12_laysNow rfl, ?_⟩
  refine List.forall_mem_cons.mpr ⟨ze_aload_n (k := 0) (by decide +kernel) rfl, ?_⟩
  refine List.forall_mem_cons.mpr ⟨ze_aload_n (k := 0) (by decide +kernel) rfl, ?_⟩
  refine List.forall_mem_cons.mpr ⟨ze_getL (by decide +kernel) fl_X12_38 rfl (by decide), ?_⟩
  refine List.forall_mem_cons.mpr ⟨ze_aload_n (k := 0) (by decide +kernel) rfl, ?_⟩
  refine List.forall_mem_cons.mpr ⟨ze_getL (by decide +kernel) fl_X12_60 rfl (by decide), ?_⟩
  refine List.forall_mem_cons.mpr ⟨ze_iconst (n := 1) (by decide +kernel) (by decide), ?_⟩
  refine List.forall_mem_cons.mpr ⟨ze_aload_n (k := 0) (by decide +kernel) rfl, ?_⟩
  refine List.forall_mem_cons.mpr ⟨ze_getL (by decide +kernel) fl_X12_38 rfl (by decide), ?_⟩
  refine List.forall_mem_cons.mpr ⟨ze_iconst (n := 3) (by decide +kernel) (by decide), ?_⟩
  refine List.forall_mem_cons.mpr ⟨ze_iald (by decide +kernel), ?_⟩
  refine List.forall_mem_cons.mpr ⟨ze_iconst (n := 0) (by decide +kernel) (by decide), ?_⟩
  refine List.forall_mem_cons.mpr ⟨ze_aload_n (k := 0) (by decide +kernel) rfl, ?_⟩
  refine List.forall_mem_cons.mpr ⟨ze_getL (by decide +kernel) fl_X12_38 rfl (by decide), ?_⟩
  refine List.forall_mem_cons.mpr ⟨ze_iconst (n := 2) (by decide +kernel) (by decide), ?_⟩
  refine List.forall_mem_cons.mpr ⟨ze_iald (by decide +kernel), ?_⟩
  refine List.forall_mem_cons.mpr ⟨ze_aload_n (k := 0) (by decide +kernel) rfl, ?_⟩
  refine List.forall_mem_cons.mpr ⟨ze_getL (by decide +kernel) fl_X12_38 rfl (by decide), ?_⟩
  refine List.forall_mem_cons.mpr ⟨ze_iconst (n := 0) (by decide +kernel) (by decide), ?_⟩
  refine List.forall_mem_cons.mpr ⟨ze_iald (by decide +kernel), ?_⟩
  refine List.forall_mem_cons.mpr ⟨ze_aload_n (k := 0) (by decide +kernel) rfl, ?_⟩
  refine List.forall_mem_cons.mpr ⟨ze_getL (by decide +kernel) fl_X12_38 rfl (by decide), ?_⟩
  refine List.forall_mem_cons.mpr ⟨ze_iconst (n := 1) (by decide +kernel) (by decide), ?_⟩
  refine List.forall_mem_cons.mpr ⟨ze_iald (by decide +kernel), ?_⟩
  refine List.forall_mem_cons.mpr ⟨ze_callVF (idx := 273) (by decide +kernel) ml_X12_273 mv_X12_costBy rfl, ?_⟩
  refine List.forall_mem_cons.mpr ⟨ze_lstoreF_n (k := 1) (by decide +kernel) rfl (by decide), ?_⟩
  refine List.forall_mem_cons.mpr ⟨ze_aload_n (k := 0) (by decide +kernel) rfl, ?_⟩
  refine List.forall_mem_cons.mpr ⟨ze_getL (by decide +kernel) fl_X12_38 rfl (by decide), ?_⟩
  refine List.forall_mem_cons.mpr ⟨ze_iconst (n := 3) (by decide +kernel) (by decide), ?_⟩
  refine List.forall_mem_cons.mpr ⟨ze_iald (by decide +kernel), ?_⟩
  refine List.forall_mem_cons.mpr ⟨ze_if_le (off := 50) (by decide +kernel) (by decide), ?_⟩
  refine List.forall_mem_cons.mpr ⟨ze_aload_n (k := 0) (by decide +kernel) rfl, ?_⟩
  refine List.forall_mem_cons.mpr ⟨ze_aload_n (k := 0) (by decide +kernel) rfl, ?_⟩
  refine List.forall_mem_cons.mpr ⟨ze_getL (by decide +kernel) fl_X12_38 rfl (by decide), ?_⟩
  refine List.forall_mem_cons.mpr ⟨ze_aload_n (k := 0) (by decide +kernel) rfl, ?_⟩
  refine List.forall_mem_cons.mpr ⟨ze_getL (by decide +kernel) fl_X12_60 rfl (by decide), ?_⟩
  refine List.forall_mem_cons.mpr ⟨ze_iconst (n := 2) (by decide +kernel) (by decide), ?_⟩
  refine List.forall_mem_cons.mpr ⟨ze_aload_n (k := 0) (by decide +kernel) rfl, ?_⟩
  refine List.forall_mem_cons.mpr ⟨ze_getL (by decide +kernel) fl_X12_38 rfl (by decide), ?_⟩
  refine List.forall_mem_cons.mpr ⟨ze_iconst (n := 3) (by decide +kernel) (by decide), ?_⟩
  refine List.forall_mem_cons.mpr ⟨ze_iald (by decide +kernel), ?_⟩
  refine List.forall_mem_cons.mpr ⟨ze_iconst (n := 0) (by decide +kernel) (by decide), ?_⟩
  refine List.forall_mem_cons.mpr ⟨ze_aload_n (k := 0) (by decide +kernel) rfl, ?_⟩
  refine List.forall_mem_cons.mpr ⟨ze_getL (by decide +kernel) fl_X12_38 rfl (by decide), ?_⟩
  refine List.forall_mem_cons.mpr ⟨ze_iconst (n := 2) (by decide +kernel) (by decide), ?_⟩
  refine List.forall_mem_cons.mpr ⟨ze_iald (by decide +kernel), ?_⟩
  refine List.forall_mem_cons.mpr ⟨ze_aload_n (k := 0) (by decide +kernel) rfl, ?_⟩
  refine List.forall_mem_cons.mpr ⟨ze_getL (by decide +kernel) fl_X12_38 rfl (by decide), ?_⟩
  refine List.forall_mem_cons.mpr ⟨ze_iconst (n := 0) (by decide +kernel) (by decide), ?_⟩
  refine List.forall_mem_cons.mpr ⟨ze_iald (by decide +kernel), ?_⟩
  refine List.forall_mem_cons.mpr ⟨ze_aload_n (k := 0) (by decide +kernel) rfl, ?_⟩
  refine List.forall_mem_cons.mpr ⟨ze_getL (by decide +kernel) fl_X12_38 rfl (by decide), ?_⟩
  refine List.forall_mem_cons.mpr ⟨ze_iconst (n := 1) (by decide +kernel) (by decide), ?_⟩
  refine List.forall_mem_cons.mpr ⟨ze_iald (by decide +kernel), ?_⟩
  refine List.forall_mem_cons.mpr ⟨ze_callVF (idx := 273) (by decide +kernel) ml_X12_273 mv_X12_costBy rfl, ?_⟩
  refine List.forall_mem_cons.mpr ⟨ze_lstoreF_n (k := 3) (by decide +kernel) rfl (by decide), ?_⟩
  refine List.forall_mem_cons.mpr ⟨ze_lload_n (k := 3) (by decide +kernel) rfl, ?_⟩
  refine List.forall_mem_cons.mpr ⟨ze_lload_n (k := 1) (by decide +kernel) rfl, ?_⟩
  refine List.forall_mem_cons.mpr ⟨ze_lcmp (by decide +kernel), ?_⟩
  refine List.forall_mem_cons.mpr ⟨ze_if_ge (off := 5) (by decide +kernel) (by decide), ?_⟩
  refine List.forall_mem_cons.mpr ⟨ze_lload_n (k := 3) (by decide +kernel) rfl, ?_⟩
  refine List.forall_mem_cons.mpr ⟨ze_lstoreF_n (k := 1) (by decide +kernel) rfl (by decide), ?_⟩
  refine List.forall_mem_cons.mpr ⟨ze_aload_n (k := 0) (by decide +kernel) rfl, ?_⟩
  refine List.forall_mem_cons.mpr ⟨ze_aload_n (k := 0) (by decide +kernel) rfl, ?_⟩
  refine List.forall_mem_cons.mpr ⟨ze_getL (by decide +kernel) fl_X12_38 rfl (by decide), ?_⟩
  refine List.forall_mem_cons.mpr ⟨ze_aload_n (k := 0) (by decide +kernel) rfl, ?_⟩
  refine List.forall_mem_cons.mpr ⟨ze_getL (by decide +kernel) fl_X12_60 rfl (by decide), ?_⟩
  refine List.forall_mem_cons.mpr ⟨ze_iconst (n := 0) (by decide +kernel) (by decide), ?_⟩
  refine List.forall_mem_cons.mpr ⟨ze_aload_n (k := 0) (by decide +kernel) rfl, ?_⟩
  refine List.forall_mem_cons.mpr ⟨ze_getL (by decide +kernel) fl_X12_38 rfl (by decide), ?_⟩
  refine List.forall_mem_cons.mpr ⟨ze_iconst (n := 3) (by decide +kernel) (by decide), ?_⟩
  refine List.forall_mem_cons.mpr ⟨ze_iald (by decide +kernel), ?_⟩
  refine List.forall_mem_cons.mpr ⟨ze_iconst (n := 0) (by decide +kernel) (by decide), ?_⟩
  refine List.forall_mem_cons.mpr ⟨ze_aload_n (k := 0) (by decide +kernel) rfl, ?_⟩
  refine List.forall_mem_cons.mpr ⟨ze_getL (by decide +kernel) fl_X12_38 rfl (by decide), ?_⟩
  refine List.forall_mem_cons.mpr ⟨ze_iconst (n := 2) (by decide +kernel) (by decide), ?_⟩
  refine List.forall_mem_cons.mpr ⟨ze_iald (by decide +kernel), ?_⟩
  refine List.forall_mem_cons.mpr ⟨ze_aload_n (k := 0) (by decide +kernel) rfl, ?_⟩
  refine List.forall_mem_cons.mpr ⟨ze_getL (by decide +kernel) fl_X12_38 rfl (by decide), ?_⟩
  refine List.forall_mem_cons.mpr ⟨ze_iconst (n := 0) (by decide +kernel) (by decide), ?_⟩
  refine List.forall_mem_cons.mpr ⟨ze_iald (by decide +kernel), ?_⟩
  refine List.forall_mem_cons.mpr ⟨ze_aload_n (k := 0) (by decide +kernel) rfl, ?_⟩
  refine List.forall_mem_cons.mpr ⟨ze_getL (by decide +kernel) fl_X12_38 rfl (by decide), ?_⟩
  refine List.forall_mem_cons.mpr ⟨ze_iconst (n := 1) (by decide +kernel) (by decide), ?_⟩
  refine List.forall_mem_cons.mpr ⟨ze_iald (by decide +kernel), ?_⟩
  refine List.forall_mem_cons.mpr ⟨ze_callVF (idx := 273) (by decide +kernel) ml_X12_273 mv_X12_costBy rfl, ?_⟩
  refine List.forall_mem_cons.mpr ⟨ze_lload_n (k := 1) (by decide +kernel) rfl, ?_⟩
  refine List.forall_mem_cons.mpr ⟨ze_lsub (by decide +kernel), ?_⟩
  refine List.forall_mem_cons.mpr ⟨ze_lret (by decide +kernel) rfl, ?_⟩
  exact fun _ h => absurd h List.not_mem_nil
theorem vX12_margin {l : Launch} {G : GT} {d : Nat} {av : List Value} {Q : Po} {σ : Mm} (cs : List (Nat × List Nat)) (k : Nat) (h : vc l G d mX12_margin TX12_margin Q cs k TX12_margin (lv_args 0 av) [] σ) (hlen : (lg_sl av).length ≤ mX12_margin.2.2.1 := by exact Nat.le_of_ble_eq_true rfl) : MW l G d mX12_margin av σ Q := mw_vc TX12_margin_ok mc_X12_margin rfl hlen cs k rfl h
theorem wX12_margin {l : Launch} {G : GT} {d : Nat} {Q : Po} {pc : Nat} {lv : Lv} {st : List Value} {σ : Mm} (cs : List (Nat × List Nat)) (k : Nat) (h : vc l G d mX12_margin TX12_margin Q cs k (drp TX12_margin pc) lv st σ) (hpc : hdp (drp TX12_margin pc) = pc := by rfl) : Wp l G d mX12_margin pc lv st σ Q := wp_vc TX12_margin_ok cs k hpc h
def TX12_till : List In := [(0, 1, zt_aload 0), (1, 2, zt_ic 0), (2, 5, zt_putI 20 0), (5, 6, zt_aload 0), (6, 7, zt_aload 0), (7, 10, zt_getL 20 20), (10, 13, zt_callVF mX12_isOver 1 20), (13, 16, zt_if_eq 18), (16, 17, zt_ic (-1)), (17, 18, zt_iret), (18, 19, zt_aload 0), (19, 22, zt_callVF mX12_laysNow 0 20), (22, 23, zt_aload 0), (23, 26, zt_getL 20 20), (26, 27, zt_ic 0), (27, 28, zt_aload 0), (28, 31, zt_getL 20 21), (31, 32, zt_ic 0), (32, 35, zt_callSF mX12_copyRow 4), (35, 36, zt_aload 0), (36, 39, zt_getL 20 20), (39, 40, zt_ic 0), (40, 41, zt_iald), (41, 42, zt_istoreF 1), (42, 43, zt_aload 0), (43, 46, zt_getL 20 20), (46, 47, zt_ic 1), (47, 48, zt_iald), (48, 49, zt_istoreF 2), (49, 52, zt_ic 999), (52, 53, zt_istoreF 3), (53, 54, zt_iload 3), (54, 57, zt_if_lt 180), (57, 58, zt_aload 0), (58, 59, zt_iload 1), (59, 62, zt_callVF mX12_mayEnd 1 20), (62, 65, zt_if_eq 180), (65, 66, zt_aload 0), (66, 69, zt_getL 20 21), (69, 71, zt_ic 25), (71, 72, zt_iload 1), (72, 73, zt_iload 2), (73, 76, zt_callSF mX12_node 2), (76, 77, zt_iadd), (77, 78, zt_iload 3), (78, 79, zt_iastoreF), (79, 80, zt_ic 0), (80, 82, zt_istoreF 4), (82, 84, zt_iload 4), (84, 85, zt_aload 0), (85, 88, zt_getL 20 20), (88, 89, zt_ic 3), (89, 90, zt_iald), (90, 93, zt_icmp_ge 142), (93, 94, zt_aload 0), (94, 97, zt_getL 20 6), (97, 99, zt_ic 10), (99, 100, zt_iald), (100, 103, zt_if_ne 142), (103, 104, zt_aload 0), (104, 105, zt_aload 0), (105, 108, zt_getL 20 21), (108, 109, zt_aload 0), (109, 112, zt_getL 20 31), (112, 113, zt_ic 0), (113, 115, zt_iload 4), (115, 116, zt_iload 1), (116, 117, zt_iload 2), (117, 120, zt_callSF mX12_node 2), (120, 121, zt_ic 1), (121, 122, zt_iadd), (122, 123, zt_aload 0), (123, 124, zt_aload 0), (124, 127, zt_getL 20 21), (127, 128, zt_iload 1), (128, 129, zt_iload 2), (129, 132, zt_callVF mX12_newCoupon 3 20), (132, 133, zt_iload 1), (133, 136, zt_callVF mX12_laysBy 7 20), (136, 139, zt_iincF 4 1), (139, 142, zt_goto 82), (142, 143, zt_aload 0), (143, 144, zt_aload 0), (144, 147, zt_getL 20 21), (147, 148, zt_aload 0), (148, 151, zt_getL 20 31), (151, 152, zt_aload 0), (152, 155, zt_getL 20 20), (155, 156, zt_ic 3), (156, 157, zt_iald), (157, 158, zt_ic 0), (158, 159, zt_aload 0), (159, 162, zt_getL 20 20), (162, 163, zt_ic 2), (163, 164, zt_iald), (164, 165, zt_iload 1), (165, 166, zt_iload 2), (166, 169, zt_callVF mX12_bestDeed 7 20), (169, 172, zt_if_eq 174), (172, 173, zt_iload 3), (173, 174, zt_iret), (174, 177, zt_iincF 3 (-1)), (177, 180, zt_goto 53), (180, 181, zt_ic (-1)), (181, 182, zt_iret)]
theorem TX12_till_ok : ∀ i ∈ TX12_till, Ent mX12_till i := by
  refine List.forall_mem_cons.mpr ⟨ze_aload_n (k := 0) (by decide +kernel) rfl, ?_⟩
  refine List.forall_mem_cons.mpr ⟨ze_iconst (n := 0) (by decide +kernel) (by decide), ?_⟩
  refine List.forall_mem_cons.mpr ⟨ze_putI (by decide +kernel) fl_X12_82 ⟨_, _, _, rfl, rfl, by decide +kernel⟩ rfl, ?_⟩
  refine List.forall_mem_cons.mpr ⟨ze_aload_n (k := 0) (by decide +kernel) rfl, ?_⟩
  refine List.forall_mem_cons.mpr ⟨ze_aload_n (k := 0) (by decide +kernel) rfl, ?_⟩
  refine List.forall_mem_cons.mpr ⟨ze_getL (by decide +kernel) fl_X12_38 rfl (by decide), ?_⟩
  refine List.forall_mem_cons.mpr ⟨ze_callVF (idx := 304) (by decide +kernel) ml_X12_304 mv_X12_isOver rfl, ?_⟩
  refine List.forall_mem_cons.mpr ⟨ze_if_eq (off := 5) (by decide +kernel) (by decide), ?_⟩
  refine List.forall_mem_cons.mpr ⟨ze_iconst (n := -1) (by decide +kernel) (by decide), ?_⟩
  refine List.forall_mem_cons.mpr ⟨ze_iret (by decide +kernel) rfl, ?_⟩
  refine List.forall_mem_cons.mpr ⟨ze_aload_n (k := 0) (by decide +kernel) rfl, ?_⟩
  refine List.forall_mem_cons.mpr ⟨ze_callVF (idx := 399) (by decide +kernel) ml_X12_399 mv_X12_laysNow rfl, ?_⟩
  refine List.forall_mem_cons.mpr ⟨ze_aload_n (k := 0) (by decide +kernel) rfl, ?_⟩
  refine List.forall_mem_cons.mpr ⟨ze_getL (by decide +kernel) fl_X12_38 rfl (by decide), ?_⟩
  refine List.forall_mem_cons.mpr ⟨ze_iconst (n := 0) (by decide +kernel) (by decide), ?_⟩
  refine List.forall_mem_cons.mpr ⟨ze_aload_n (k := 0) (by decide +kernel) rfl, ?_⟩
  refine List.forall_mem_cons.mpr ⟨ze_getL (by decide +kernel) fl_X12_41 rfl (by decide), ?_⟩
  refine List.forall_mem_cons.mpr ⟨ze_iconst (n := 0) (by decide +kernel) (by decide), ?_⟩
  refine List.forall_mem_cons.mpr ⟨ze_callSF (idx := 353) (by decide +kernel) ml_X12_353 ms_X12_copyRow, ?_⟩
  refine List.forall_mem_cons.mpr ⟨ze_aload_n (k := 0) (by decide +kernel) rfl, ?_⟩
  refine List.forall_mem_cons.mpr ⟨ze_getL (by decide +kernel) fl_X12_38 rfl (by decide), ?_⟩
  refine List.forall_mem_cons.mpr ⟨ze_iconst (n := 0) (by decide +kernel) (by decide), ?_⟩
  refine List.forall_mem_cons.mpr ⟨ze_iald (by decide +kernel), ?_⟩
  refine List.forall_mem_cons.mpr ⟨ze_istoreF_n (k := 1) (by decide +kernel) rfl (by decide), ?_⟩
  refine List.forall_mem_cons.mpr ⟨ze_aload_n (k := 0) (by decide +kernel) rfl, ?_⟩
  refine List.forall_mem_cons.mpr ⟨ze_getL (by decide +kernel) fl_X12_38 rfl (by decide), ?_⟩
  refine List.forall_mem_cons.mpr ⟨ze_iconst (n := 1) (by decide +kernel) (by decide), ?_⟩
  refine List.forall_mem_cons.mpr ⟨ze_iald (by decide +kernel), ?_⟩
  refine List.forall_mem_cons.mpr ⟨ze_istoreF_n (k := 2) (by decide +kernel) rfl (by decide), ?_⟩
  refine List.forall_mem_cons.mpr ⟨ze_sipush (n := 999) (by decide +kernel) (by decide), ?_⟩
  refine List.forall_mem_cons.mpr ⟨ze_istoreF_n (k := 3) (by decide +kernel) rfl (by decide), ?_⟩
  refine List.forall_mem_cons.mpr ⟨ze_iload_n (k := 3) (by decide +kernel) rfl, ?_⟩
  refine List.forall_mem_cons.mpr ⟨ze_if_lt (off := 126) (by decide +kernel) (by decide), ?_⟩
  refine List.forall_mem_cons.mpr ⟨ze_aload_n (k := 0) (by decide +kernel) rfl, ?_⟩
  refine List.forall_mem_cons.mpr ⟨ze_iload_n (k := 1) (by decide +kernel) rfl, ?_⟩
  refine List.forall_mem_cons.mpr ⟨ze_callVF (idx := 265) (by decide +kernel) ml_X12_265 mv_X12_mayEnd rfl, ?_⟩
  refine List.forall_mem_cons.mpr ⟨ze_if_eq (off := 118) (by decide +kernel) (by decide), ?_⟩
  refine List.forall_mem_cons.mpr ⟨ze_aload_n (k := 0) (by decide +kernel) rfl, ?_⟩
  refine List.forall_mem_cons.mpr ⟨ze_getL (by decide +kernel) fl_X12_41 rfl (by decide), ?_⟩
  refine List.forall_mem_cons.mpr ⟨ze_bipush (n := 25) (by decide +kernel) (by decide), ?_⟩
  refine List.forall_mem_cons.mpr ⟨ze_iload_n (k := 1) (by decide +kernel) rfl, ?_⟩
  refine List.forall_mem_cons.mpr ⟨ze_iload_n (k := 2) (by decide +kernel) rfl, ?_⟩
  refine List.forall_mem_cons.mpr ⟨ze_callSF (idx := 210) (by decide +kernel) ml_X12_210 ms_X12_node, ?_⟩
  refine List.forall_mem_cons.mpr ⟨ze_iadd (by decide +kernel), ?_⟩
  refine List.forall_mem_cons.mpr ⟨ze_iload_n (k := 3) (by decide +kernel) rfl, ?_⟩
  refine List.forall_mem_cons.mpr ⟨ze_iastoreF (by decide +kernel), ?_⟩
  refine List.forall_mem_cons.mpr ⟨ze_iconst (n := 0) (by decide +kernel) (by decide), ?_⟩
  refine List.forall_mem_cons.mpr ⟨ze_istoreF (by decide +kernel) (by decide), ?_⟩
  refine List.forall_mem_cons.mpr ⟨ze_iload (by decide +kernel), ?_⟩
  refine List.forall_mem_cons.mpr ⟨ze_aload_n (k := 0) (by decide +kernel) rfl, ?_⟩
  refine List.forall_mem_cons.mpr ⟨ze_getL (by decide +kernel) fl_X12_38 rfl (by decide), ?_⟩
  refine List.forall_mem_cons.mpr ⟨ze_iconst (n := 3) (by decide +kernel) (by decide), ?_⟩
  refine List.forall_mem_cons.mpr ⟨ze_iald (by decide +kernel), ?_⟩
  refine List.forall_mem_cons.mpr ⟨ze_icmp_ge (off := 52) (by decide +kernel) (by decide), ?_⟩
  refine List.forall_mem_cons.mpr ⟨ze_aload_n (k := 0) (by decide +kernel) rfl, ?_⟩
  refine List.forall_mem_cons.mpr ⟨ze_getL (by decide +kernel) fl_X12_17 rfl (by decide), ?_⟩
  refine List.forall_mem_cons.mpr ⟨ze_bipush (n := 10) (by decide +kernel) (by decide), ?_⟩
  refine List.forall_mem_cons.mpr ⟨ze_iald (by decide +kernel), ?_⟩
  refine List.forall_mem_cons.mpr ⟨ze_if_ne (off := 42) (by decide +kernel) (by decide), ?_⟩
  refine List.forall_mem_cons.mpr ⟨ze_aload_n (k := 0) (by decide +kernel) rfl, ?_⟩
  refine List.forall_mem_cons.mpr ⟨ze_aload_n (k := 0) (by decide +kernel) rfl, ?_⟩
  refine List.forall_mem_cons.mpr ⟨ze_getL (by decide +kernel) fl_X12_41 rfl (by decide), ?_⟩
  refine List.forall_mem_cons.mpr ⟨ze_aload_n (k := 0) (by decide +kernel) rfl, ?_⟩
  refine List.forall_mem_cons.mpr ⟨ze_getL (by decide +kernel) fl_X12_60 rfl (by decide), ?_⟩
  refine List.forall_mem_cons.mpr ⟨ze_iconst (n := 0) (by decide +kernel) (by decide), ?_⟩
  refine List.forall_mem_cons.mpr ⟨ze_iload (by decide +kernel), ?_⟩
  refine List.forall_mem_cons.mpr ⟨ze_iload_n (k := 1) (by decide +kernel) rfl, ?_⟩
  refine List.forall_mem_cons.mpr ⟨ze_iload_n (k := 2) (by decide +kernel) rfl, ?_⟩
  refine List.forall_mem_cons.mpr ⟨ze_callSF (idx := 210) (by decide +kernel) ml_X12_210 ms_X12_node, ?_⟩
  refine List.forall_mem_cons.mpr ⟨ze_iconst (n := 1) (by decide +kernel) (by decide), ?_⟩
  refine List.forall_mem_cons.mpr ⟨ze_iadd (by decide +kernel), ?_⟩
  refine List.forall_mem_cons.mpr ⟨ze_aload_n (k := 0) (by decide +kernel) rfl, ?_⟩
  refine List.forall_mem_cons.mpr ⟨ze_aload_n (k := 0) (by decide +kernel) rfl, ?_⟩
  refine List.forall_mem_cons.mpr ⟨ze_getL (by decide +kernel) fl_X12_41 rfl (by decide), ?_⟩
  refine List.forall_mem_cons.mpr ⟨ze_iload_n (k := 1) (by decide +kernel) rfl, ?_⟩
  refine List.forall_mem_cons.mpr ⟨ze_iload_n (k := 2) (by decide +kernel) rfl, ?_⟩
  refine List.forall_mem_cons.mpr ⟨ze_callVF (idx := 293) (by decide +kernel) ml_X12_293 mv_X12_newCoupon rfl, ?_⟩
  refine List.forall_mem_cons.mpr ⟨ze_iload_n (k := 1) (by decide +kernel) rfl, ?_⟩
  refine List.forall_mem_cons.mpr ⟨ze_callVF (idx := 296) (by decide +kernel) ml_X12_296 mv_X12_laysBy rfl, ?_⟩
  refine List.forall_mem_cons.mpr ⟨ze_iincF (n := 1) (by decide +kernel) (by decide) (by decide), ?_⟩
  refine List.forall_mem_cons.mpr ⟨ze_goto (off := -57) (by decide +kernel) (by decide), ?_⟩
  refine List.forall_mem_cons.mpr ⟨ze_aload_n (k := 0) (by decide +kernel) rfl, ?_⟩
  refine List.forall_mem_cons.mpr ⟨ze_aload_n (k := 0) (by decide +kernel) rfl, ?_⟩
  refine List.forall_mem_cons.mpr ⟨ze_getL (by decide +kernel) fl_X12_41 rfl (by decide), ?_⟩
  refine List.forall_mem_cons.mpr ⟨ze_aload_n (k := 0) (by decide +kernel) rfl, ?_⟩
  refine List.forall_mem_cons.mpr ⟨ze_getL (by decide +kernel) fl_X12_60 rfl (by decide), ?_⟩
  refine List.forall_mem_cons.mpr ⟨ze_aload_n (k := 0) (by decide +kernel) rfl, ?_⟩
  refine List.forall_mem_cons.mpr ⟨ze_getL (by decide +kernel) fl_X12_38 rfl (by decide), ?_⟩
  refine List.forall_mem_cons.mpr ⟨ze_iconst (n := 3) (by decide +kernel) (by decide), ?_⟩
  refine List.forall_mem_cons.mpr ⟨ze_iald (by decide +kernel), ?_⟩
  refine List.forall_mem_cons.mpr ⟨ze_iconst (n := 0) (by decide +kernel) (by decide), ?_⟩
  refine List.forall_mem_cons.mpr ⟨ze_aload_n (k := 0) (by decide +kernel) rfl, ?_⟩
  refine List.forall_mem_cons.mpr ⟨ze_getL (by decide +kernel) fl_X12_38 rfl (by decide), ?_⟩
  refine List.forall_mem_cons.mpr ⟨ze_iconst (n := 2) (by decide +kernel) (by decide), ?_⟩
  refine List.forall_mem_cons.mpr ⟨ze_iald (by decide +kernel), ?_⟩
  refine List.forall_mem_cons.mpr ⟨ze_iload_n (k := 1) (by decide +kernel) rfl, ?_⟩
  refine List.forall_mem_cons.mpr ⟨ze_iload_n (k := 2) (by decide +kernel) rfl, ?_⟩
  refine List.forall_mem_cons.mpr ⟨ze_callVF (idx := 285) (by decide +kernel) ml_X12_285 mv_X12_bestDeed rfl, ?_⟩
  refine List.forall_mem_cons.mpr ⟨ze_if_eq (off := 5) (by decide +kernel) (by decide), ?_⟩
  refine List.forall_mem_cons.mpr ⟨ze_iload_n (k := 3) (by decide +kernel) rfl, ?_⟩
  refine List.forall_mem_cons.mpr ⟨ze_iret (by decide +kernel) rfl, ?_⟩
  refine List.forall_mem_cons.mpr ⟨ze_iincF (n := -1) (by decide +kernel) (by decide) (by decide), ?_⟩
  refine List.forall_mem_cons.mpr ⟨ze_goto (off := -124) (by decide +kernel) (by decide), ?_⟩
  refine List.forall_mem_cons.mpr ⟨ze_iconst (n := -1) (by decide +kernel) (by decide), ?_⟩
  refine List.forall_mem_cons.mpr ⟨ze_iret (by decide +kernel) rfl, ?_⟩
  exact fun _ h => absurd h List.not_mem_nil
theorem vX12_till {l : Launch} {G : GT} {d : Nat} {av : List Value} {Q : Po} {σ : Mm} (cs : List (Nat × List Nat)) (k : Nat) (h : vc l G d mX12_till TX12_till Q cs k TX12_till (lv_args 0 av) [] σ) (hlen : (lg_sl av).length ≤ mX12_till.2.2.1 := by exact Nat.le_of_ble_eq_true rfl) : MW l G d mX12_till av σ Q := mw_vc TX12_till_ok mc_X12_till rfl hlen cs k rfl h
theorem wX12_till {l : Launch} {G : GT} {d : Nat} {Q : Po} {pc : Nat} {lv : Lv} {st : List Value} {σ : Mm} (cs : List (Nat × List Nat)) (k : Nat) (h : vc l G d mX12_till TX12_till Q cs k (drp TX12_till pc) lv st σ) (hpc : hdp (drp TX12_till pc) = pc := by rfl) : Wp l G d mX12_till pc lv st σ Q := wp_vc TX12_till_ok cs k hpc h
