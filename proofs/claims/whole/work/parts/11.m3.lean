def TX12_edge : List In := [(0, 1, zt_aload 0), (1, 2, zt_ic 0), (2, 5, zt_putI 20 0), (5, 6, zt_aload 0), (6, 7, zt_iload 1), (7, 8, zt_ic 0), (8, 11, zt_callVF mX12_isNode 2 20), (11, 14, zt_if_ne 16), (14, 15, zt_ic (-1)), (15, 16, zt_iret), (16, 17, zt_aload 0), (17, 20, zt_callVF mX12_laysNow 0 20), (20, 21, zt_ic 0), (21, 22, zt_istoreF 2), (22, 23, zt_iload 2), (23, 24, zt_iload 1), (24, 27, zt_icmp_gt 65), (27, 28, zt_aload 0), (28, 29, zt_aload 0), (29, 32, zt_getL 20 20), (32, 33, zt_aload 0), (33, 36, zt_getL 20 31), (36, 37, zt_aload 0), (37, 40, zt_getL 20 20), (40, 41, zt_ic 3), (41, 42, zt_iald), (42, 43, zt_ic 0), (43, 44, zt_aload 0), (44, 47, zt_getL 20 20), (47, 48, zt_ic 2), (48, 49, zt_iald), (49, 50, zt_iload 1), (50, 51, zt_iload 2), (51, 54, zt_callVF mX12_bestDeed 7 20), (54, 57, zt_if_ne 59), (57, 58, zt_iload 2), (58, 59, zt_iret), (59, 62, zt_iincF 2 1), (62, 65, zt_goto 22), (65, 66, zt_ic (-1)), (66, 67, zt_iret)]
theorem TX12_edge_ok : ∀ i ∈ TX12_edge, Ent mX12_edge i := by
  refine List.forall_mem_cons.mpr ⟨ze_aload_n (k := 0) (by decide +kernel) rfl, ?_⟩
  refine List.forall_mem_cons.mpr ⟨ze_iconst (n := 0) (by decide +kernel) (by decide), ?_⟩
  refine List.forall_mem_cons.mpr ⟨ze_putI (by decide +kernel) fl_X12_82 ⟨_, _, _, rfl, rfl, by decide +kernel⟩ rfl, ?_⟩
  refine List.forall_mem_cons.mpr ⟨ze_aload_n (k := 0) (by decide +kernel) rfl, ?_⟩
  refine List.forall_mem_cons.mpr ⟨ze_iload_n (k := 1) (by decide +kernel) rfl, ?_⟩
  refine List.forall_mem_cons.mpr ⟨ze_iconst (n := 0) (by decide +kernel) (by decide), ?_⟩
  refine List.forall_mem_cons.mpr ⟨ze_callVF (idx := 206) (by decide +kernel) ml_X12_206 mv_X12_isNode rfl, ?_⟩
  refine List.forall_mem_cons.mpr ⟨ze_if_ne (off := 5) (by decide +kernel) (by decide), ?_⟩
  refine List.forall_mem_cons.mpr ⟨ze_iconst (n := -1) (by decide +kernel) (by decide), ?_⟩
  refine List.forall_mem_cons.mpr ⟨ze_iret (by decide +kernel) rfl, ?_⟩
  refine List.forall_mem_cons.mpr ⟨ze_aload_n (k := 0) (by decide +kernel) rfl, ?_⟩
  refine List.forall_mem_cons.mpr ⟨ze_callVF (idx := 399) (by decide +kernel) ml_X12_399 mv_X12_laysNow rfl, ?_⟩
  refine List.forall_mem_cons.mpr ⟨ze_iconst (n := 0) (by decide +kernel) (by decide), ?_⟩
  refine List.forall_mem_cons.mpr ⟨ze_istoreF_n (k := 2) (by decide +kernel) rfl (by decide), ?_⟩
  refine List.forall_mem_cons.mpr ⟨ze_iload_n (k := 2) (by decide +kernel) rfl, ?_⟩
  refine List.forall_mem_cons.mpr ⟨ze_iload_n (k := 1) (by decide +kernel) rfl, ?_⟩
  refine List.forall_mem_cons.mpr ⟨ze_icmp_gt (off := 41) (by decide +kernel) (by decide), ?_⟩
  refine List.forall_mem_cons.mpr ⟨ze_aload_n (k := 0) (by decide +kernel) rfl, ?_⟩
  refine List.forall_mem_cons.mpr ⟨ze_aload_n (k := 0) (by decide +kernel) rfl, ?_⟩
  refine List.forall_mem_cons.mpr ⟨ze_getL (by decide +kernel) fl_X12_38 rfl (by decide), ?_⟩
  refine List.forall_mem_cons.mpr ⟨ze_aload_n (k := 0) (by decide +kernel) rfl, ?_⟩
  refine List.forall_mem_cons.mpr ⟨ze_getL (by decide +kernel) fl_X12_60 rfl (by decide), ?_⟩
  refine List.forall_mem_cons.mpr ⟨ze_aload_n (k := 0) (by decide +kernel) rfl, ?_⟩
  refine List.forall_mem_cons.mpr ⟨ze_getL (by decide +kernel) fl_X12_38 rfl (by decide), ?_⟩
  refine List.forall_mem_cons.mpr ⟨ze_iconst (n := 3) (by decide +kernel) (by decide), ?_⟩
  refine List.forall_mem_cons.mpr ⟨ze_iald (by decide +kernel), ?_⟩
  refine List.forall_mem_cons.mpr ⟨ze_iconst (n := 0) (by decide +kernel) (by decide), ?_⟩
  refine List.forall_mem_cons.mpr ⟨ze_aload_n (k := 0) (by decide +kernel) rfl, ?_⟩
  refine List.forall_mem_cons.mpr ⟨ze_getL (by decide +kernel) fl_X12_38 rfl (by decide), ?_⟩
  refine List.forall_mem_cons.mpr ⟨ze_iconst (n := 2) (by decide +kernel) (by decide), ?_⟩
  refine List.forall_mem_cons.mpr ⟨ze_iald (by decide +kernel), ?_⟩
  refine List.forall_mem_cons.mpr ⟨ze_iload_n (k := 1) (by decide +kernel) rfl, ?_⟩
  refine List.forall_mem_cons.mpr ⟨ze_iload_n (k := 2) (by decide +kernel) rfl, ?_⟩
  refine List.forall_mem_cons.mpr ⟨ze_callVF (idx := 285) (by decide +kernel) ml_X12_285 mv_X12_bestDeed rfl, ?_⟩
  refine List.forall_mem_cons.mpr ⟨ze_if_ne (off := 5) (by decide +kernel) (by decide), ?_⟩
  refine List.forall_mem_cons.mpr ⟨ze_iload_n (k := 2) (by decide +kernel) rfl, ?_⟩
  refine List.forall_mem_cons.mpr ⟨ze_iret (by decide +kernel) rfl, ?_⟩
  refine List.forall_mem_cons.mpr ⟨ze_iincF (n := 1) (by decide +kernel) (by decide) (by decide), ?_⟩
  refine List.forall_mem_cons.mpr ⟨ze_goto (off := -40) (by decide +kernel) (by decide), ?_⟩
  refine List.forall_mem_cons.mpr ⟨ze_iconst (n := -1) (by decide +kernel) (by decide), ?_⟩
  refine List.forall_mem_cons.mpr ⟨ze_iret (by decide +kernel) rfl, ?_⟩
  exact fun _ h => absurd h List.not_mem_nil
theorem vX12_edge {l : Launch} {G : GT} {d : Nat} {av : List Value} {Q : Po} {σ : Mm} (cs : List (Nat × List Nat)) (k : Nat) (h : vc l G d mX12_edge TX12_edge Q cs k TX12_edge (lv_args 0 av) [] σ) (hlen : (lg_sl av).length ≤ mX12_edge.2.2.1 := by exact Nat.le_of_ble_eq_true rfl) : MW l G d mX12_edge av σ Q := mw_vc TX12_edge_ok mc_X12_edge rfl hlen cs k rfl h
theorem wX12_edge {l : Launch} {G : GT} {d : Nat} {Q : Po} {pc : Nat} {lv : Lv} {st : List Value} {σ : Mm} (cs : List (Nat × List Nat)) (k : Nat) (h : vc l G d mX12_edge TX12_edge Q cs k (drp TX12_edge pc) lv st σ) (hpc : hdp (drp TX12_edge pc) = pc := by rfl) : Wp l G d mX12_edge pc lv st σ Q := wp_vc TX12_edge_ok cs k hpc h
def TX12_saved : List In := [(0, 1, zt_aload 0), (1, 2, zt_ic 0), (2, 5, zt_putI 20 0), (5, 6, zt_aload 0), (6, 7, zt_aload 0), (7, 10, zt_getL 20 20), (10, 13, zt_callVF mX12_isOver 1 20), (13, 16, zt_if_eq 20), (16, 19, zt_lc (-1 : Int64)), (19, 20, zt_lret), (20, 21, zt_aload 0), (21, 24, zt_callVF mX12_laysNow 0 20), (24, 25, zt_aload 0), (25, 28, zt_getL 20 31), (28, 29, zt_ic 0), (29, 30, zt_ic 0), (30, 31, zt_aload 0), (31, 34, zt_getL 20 20), (34, 35, zt_ic 0), (35, 36, zt_iald), (36, 37, zt_aload 0), (37, 40, zt_getL 20 20), (40, 41, zt_ic 1), (41, 42, zt_iald), (42, 45, zt_callSF mX12_cell 4), (45, 46, zt_lald), (46, 47, zt_aload 0), (47, 48, zt_aload 0), (48, 51, zt_getL 20 31), (51, 54, zt_callVF mX12_here_ 1 20), (54, 55, zt_lsub), (55, 56, zt_lret)]
theorem TX12_saved_ok : ∀ i ∈ TX12_saved, Ent mX12_saved i := by
  refine List.forall_mem_cons.mpr ⟨ze_aload_n (k := 0) (by decide +kernel) rfl, ?_⟩
  refine List.forall_mem_cons.mpr ⟨ze_iconst (n := 0) (by decide +kernel) (by decide), ?_⟩
  refine List.forall_mem_cons.mpr ⟨ze_putI (by decide +kernel) fl_X12_82 ⟨_, _, _, rfl, rfl, by decide +kernel⟩ rfl, ?_⟩
  refine List.forall_mem_cons.mpr ⟨ze_aload_n (k := 0) (by decide +kernel) rfl, ?_⟩
  refine List.forall_mem_cons.mpr ⟨ze_aload_n (k := 0) (by decide +kernel) rfl, ?_⟩
  refine List.forall_mem_cons.mpr ⟨ze_getL (by decide +kernel) fl_X12_38 rfl (by decide), ?_⟩
  refine List.forall_mem_cons.mpr ⟨ze_callVF (idx := 304) (by decide +kernel) ml_X12_304 mv_X12_isOver rfl, ?_⟩
  refine List.forall_mem_cons.mpr ⟨ze_if_eq (off := 7) (by decide +kernel) (by decide), ?_⟩
  refine List.forall_mem_cons.mpr ⟨ze_ldc2 (i := 397) (by decide +kernel) kc_X12_397, ?_⟩
  refine List.forall_mem_cons.mpr ⟨ze_lret (by decide +kernel) rfl, ?_⟩
  refine List.forall_mem_cons.mpr ⟨ze_aload_n (k := 0) (by decide +kernel) rfl, ?_⟩
  refine List.forall_mem_cons.mpr ⟨ze_callVF (idx := 399) (by decide +kernel) ml_X12_399 mv_X12_laysNow rfl, ?_⟩
  refine List.forall_mem_cons.mpr ⟨ze_aload_n (k := 0) (by decide +kernel) rfl, ?_⟩
  refine List.forall_mem_cons.mpr ⟨ze_getL (by decide +kernel) fl_X12_60 rfl (by decide), ?_⟩
  refine List.forall_mem_cons.mpr ⟨ze_iconst (n := 0) (by decide +kernel) (by decide), ?_⟩
  refine List.forall_mem_cons.mpr ⟨ze_iconst (n := 0) (by decide +kernel) (by decide), ?_⟩
  refine List.forall_mem_cons.mpr ⟨ze_aload_n (k := 0) (by decide +kernel) rfl, ?_⟩
  refine List.forall_mem_cons.mpr ⟨ze_getL (by decide +kernel) fl_X12_38 rfl (by decide), ?_⟩
  refine List.forall_mem_cons.mpr ⟨ze_iconst (n := 0) (by decide +kernel) (by decide), ?_⟩
  refine List.forall_mem_cons.mpr ⟨ze_iald (by decide +kernel), ?_⟩
  refine List.forall_mem_cons.mpr ⟨ze_aload_n (k := 0) (by decide +kernel) rfl, ?_⟩
  refine List.forall_mem_cons.mpr ⟨ze_getL (by decide +kernel) fl_X12_38 rfl (by decide), ?_⟩
  refine List.forall_mem_cons.mpr ⟨ze_iconst (n := 1) (by decide +kernel) (by decide), ?_⟩
  refine List.forall_mem_cons.mpr ⟨ze_iald (by decide +kernel), ?_⟩
  refine List.forall_mem_cons.mpr ⟨ze_callSF (idx := 246) (by decide +kernel) ml_X12_246 ms_X12_cell, ?_⟩
  refine List.forall_mem_cons.mpr ⟨ze_lald (by decide +kernel), ?_⟩
  refine List.forall_mem_cons.mpr ⟨ze_aload_n (k := 0) (by decide +kernel) rfl, ?_⟩
  refine List.forall_mem_cons.mpr ⟨ze_aload_n (k := 0) (by decide +kernel) rfl, ?_⟩
  refine List.forall_mem_cons.mpr ⟨ze_getL (by decide +kernel) fl_X12_60 rfl (by decide), ?_⟩
  refine List.forall_mem_cons.mpr ⟨ze_callVF (idx := 444) (by decide +kernel) ml_X12_444 mv_X12_here_ rfl, ?_⟩
  refine List.forall_mem_cons.mpr ⟨ze_lsub (by decide +kernel), ?_⟩
  refine List.forall_mem_cons.mpr ⟨ze_lret (by decide +kernel) rfl, ?_⟩
  exact fun _ h => absurd h List.not_mem_nil
theorem vX12_saved {l : Launch} {G : GT} {d : Nat} {av : List Value} {Q : Po} {σ : Mm} (cs : List (Nat × List Nat)) (k : Nat) (h : vc l G d mX12_saved TX12_saved Q cs k TX12_saved (lv_args 0 av) [] σ) (hlen : (lg_sl av).length ≤ mX12_saved.2.2.1 := by exact Nat.le_of_ble_eq_true rfl) : MW l G d mX12_saved av σ Q := mw_vc TX12_saved_ok mc_X12_saved rfl hlen cs k rfl h
theorem wX12_saved {l : Launch} {G : GT} {d : Nat} {Q : Po} {pc : Nat} {lv : Lv} {st : List Value} {σ : Mm} (cs : List (Nat × List Nat)) (k : Nat) (h : vc l G d mX12_saved TX12_saved Q cs k (drp TX12_saved pc) lv st σ) (hpc : hdp (drp TX12_saved pc) = pc := by rfl) : Wp l G d mX12_saved pc lv st σ Q := wp_vc TX12_saved_ok cs k hpc h
def TX12_fair : List In := [(0, 1, zt_aload 0), (1, 2, zt_ic 0), (2, 5, zt_putI 20 0), (5, 6, zt_aload 0), (6, 7, zt_aload 0), (7, 10, zt_getL 20 20), (10, 13, zt_callVF mX12_isOver 1 20), (13, 16, zt_if_eq 18), (16, 17, zt_ic (-1)), (17, 18, zt_iret), (18, 19, zt_aload 0), (19, 22, zt_callVF mX12_laysNow 0 20), (22, 25, zt_ic 999), (25, 26, zt_istoreF 1), (26, 27, zt_iload 1), (27, 30, zt_if_lt 89), (30, 31, zt_aload 0), (31, 32, zt_aload 0), (32, 35, zt_getL 20 20), (35, 36, zt_aload 0), (36, 39, zt_getL 20 31), (39, 40, zt_ic 0), (40, 41, zt_aload 0), (41, 44, zt_getL 20 20), (44, 45, zt_ic 3), (45, 46, zt_iald), (46, 47, zt_ic 0), (47, 48, zt_iload 1), (48, 49, zt_aload 0), (49, 52, zt_getL 20 20), (52, 53, zt_ic 0), (53, 54, zt_iald), (54, 57, zt_callVF mX12_laysBy 7 20), (57, 58, zt_aload 0), (58, 59, zt_aload 0), (59, 62, zt_getL 20 31), (62, 65, zt_callVF mX12_here_ 1 20), (65, 66, zt_aload 0), (66, 69, zt_getL 20 28), (69, 70, zt_aload 0), (70, 73, zt_getL 20 20), (73, 74, zt_ic 0), (74, 75, zt_iald), (75, 76, zt_iald), (76, 77, zt_i2l), (77, 78, zt_lcmp), (78, 81, zt_if_gt 83), (81, 82, zt_iload 1), (82, 83, zt_iret), (83, 86, zt_iincF 1 (-1)), (86, 89, zt_goto 26), (89, 90, zt_ic (-1)), (90, 91, zt_iret)]
theorem TX12_fair_ok : ∀ i ∈ TX12_fair, Ent mX12_fair i := by
  refine List.forall_mem_cons.mpr ⟨ze_aload_n (k := 0) (by decide +kernel) rfl, ?_⟩
  refine List.forall_mem_cons.mpr ⟨ze_iconst (n := 0) (by decide +kernel) (by decide), ?_⟩
  refine List.forall_mem_cons.mpr ⟨ze_putI (by decide +kernel) fl_X12_82 ⟨_, _, _, rfl, rfl, by decide +kernel⟩ rfl, ?_⟩
  refine List.forall_mem_cons.mpr ⟨ze_aload_n (k := 0) (by decide +kernel) rfl, ?_⟩
  refine List.forall_mem_cons.mpr ⟨ze_aload_n (k := 0) (by decide +kernel) rfl, ?_⟩
  refine List.forall_mem_cons.mpr ⟨ze_getL (by decide +kernel) fl_X12_38 rfl (by decide), ?_⟩
  refine List.forall_mem_cons.mpr ⟨ze_callVF (idx := 304) (by decide +kernel) ml_X12_304 mv_X12_isOver rfl, ?_⟩
  refine List.forall_mem_cons.mpr ⟨ze_if_eq (off := 5) (by decide +kernel) (by decide), ?_⟩
  refine List.forall_mem_cons.mpr ⟨ze_iconst (n := -1) (by decide +kernel) (by decide), ?_⟩
  refine List.forall_mem_cons.mpr ⟨ze_iret (by decide +kernel) rfl, ?_⟩
  refine List.forall_mem_cons.mpr ⟨ze_aload_n (k := 0) (by decide +kernel) rfl, ?_⟩
  refine List.forall_mem_cons.mpr ⟨ze_callVF (idx := 399) (by decide +kernel) ml_X12_399 mv_X12_laysNow rfl, ?_⟩
  refine List.forall_mem_cons.mpr ⟨ze_sipush (n := 999) (by decide +kernel) (by decide), ?_⟩
  refine List.forall_mem_cons.mpr ⟨ze_istoreF_n (k := 1) (by decide +kernel) rfl (by decide), ?_⟩
  refine List.forall_mem_cons.mpr ⟨ze_iload_n (k := 1) (by decide +kernel) rfl, ?_⟩
  refine List.forall_mem_cons.mpr ⟨ze_if_lt (off := 62) (by decide +kernel) (by decide), ?_⟩
  refine List.forall_mem_cons.mpr ⟨ze_aload_n (k := 0) (by decide +kernel) rfl, ?_⟩
  refine List.forall_mem_cons.mpr ⟨ze_aload_n (k := 0) (by decide +kernel) rfl, ?_⟩
  refine List.forall_mem_cons.mpr ⟨ze_getL (by decide +kernel) fl_X12_38 rfl (by decide), ?_⟩
  refine List.forall_mem_cons.mpr ⟨ze_aload_n (k := 0) (by decide +kernel) rfl, ?_⟩
  refine List.forall_mem_cons.mpr ⟨ze_getL (by decide +kernel) fl_X12_60 rfl (by decide), ?_⟩
  refine List.forall_mem_cons.mpr ⟨ze_iconst (n := 0) (by decide +kernel) (by decide), ?_⟩
  refine List.forall_mem_cons.mpr ⟨ze_aload_n (k := 0) (by decide +kernel) rfl, ?_⟩
  refine List.forall_mem_cons.mpr ⟨ze_getL (by decide +kernel) fl_X12_38 rfl (by decide), ?_⟩
  refine List.forall_mem_cons.mpr ⟨ze_iconst (n := 3) (by decide +kernel) (by decide), ?_⟩
  refine List.forall_mem_cons.mpr ⟨ze_iald (by decide +kernel), ?_⟩
  refine List.forall_mem_cons.mpr ⟨ze_iconst (n := 0) (by decide +kernel) (by decide), ?_⟩
  refine List.forall_mem_cons.mpr ⟨ze_iload_n (k := 1) (by decide +kernel) rfl, ?_⟩
  refine List.forall_mem_cons.mpr ⟨ze_aload_n (k := 0) (by decide +kernel) rfl, ?_⟩
  refine List.forall_mem_cons.mpr ⟨ze_getL (by decide +kernel) fl_X12_38 rfl (by decide), ?_⟩
  refine List.forall_mem_cons.mpr ⟨ze_iconst (n := 0) (by decide +kernel) (by decide), ?_⟩
  refine List.forall_mem_cons.mpr ⟨ze_iald (by decide +kernel), ?_⟩
  refine List.forall_mem_cons.mpr ⟨ze_callVF (idx := 296) (by decide +kernel) ml_X12_296 mv_X12_laysBy rfl, ?_⟩
  refine List.forall_mem_cons.mpr ⟨ze_aload_n (k := 0) (by decide +kernel) rfl, ?_⟩
  refine List.forall_mem_cons.mpr ⟨ze_aload_n (k := 0) (by decide +kernel) rfl, ?_⟩
  refine List.forall_mem_cons.mpr ⟨ze_getL (by decide +kernel) fl_X12_60 rfl (by decide), ?_⟩
  refine List.forall_mem_cons.mpr ⟨ze_callVF (idx := 444) (by decide +kernel) ml_X12_444 mv_X12_here_ rfl, ?_⟩
  refine List.forall_mem_cons.mpr ⟨ze_aload_n (k := 0) (by decide +kernel) rfl, ?_⟩
  refine List.forall_mem_cons.mpr ⟨ze_getL (by decide +kernel) fl_X12_50 rfl (by decide), ?_⟩
  refine List.forall_mem_cons.mpr ⟨ze_aload_n (k := 0) (by decide +kernel) rfl, ?_⟩
  refine List.forall_mem_cons.mpr ⟨ze_getL (by decide +kernel) fl_X12_38 rfl (by decide), ?_⟩
  refine List.forall_mem_cons.mpr ⟨ze_iconst (n := 0) (by decide +kernel) (by decide), ?_⟩
  refine List.forall_mem_cons.mpr ⟨ze_iald (by decide +kernel), ?_⟩
  refine List.forall_mem_cons.mpr ⟨ze_iald (by decide +kernel), ?_⟩
  refine List.forall_mem_cons.mpr ⟨ze_i2l (by decide +kernel), ?_⟩
  refine List.forall_mem_cons.mpr ⟨ze_lcmp (by decide +kernel), ?_⟩
  refine List.forall_mem_cons.mpr ⟨ze_if_gt (off := 5) (by decide +kernel) (by decide), ?_⟩
  refine List.forall_mem_cons.mpr ⟨ze_iload_n (k := 1) (by decide +kernel) rfl, ?_⟩
  refine List.forall_mem_cons.mpr ⟨ze_iret (by decide +kernel) rfl, ?_⟩
  refine List.forall_mem_cons.mpr ⟨ze_iincF (n := -1) (by decide +kernel) (by decide) (by decide), ?_⟩
  refine List.forall_mem_cons.mpr ⟨ze_goto (off := -60) (by decide +kernel) (by decide), ?_⟩
  refine List.forall_mem_cons.mpr ⟨ze_iconst (n := -1) (by decide +kernel) (by decide), ?_⟩
  refine List.forall_mem_cons.mpr ⟨ze_iret (by decide +kernel) rfl, ?_⟩
  exact fun _ h => absurd h List.not_mem_nil
theorem vX12_fair {l : Launch} {G : GT} {d : Nat} {av : List Value} {Q : Po} {σ : Mm} (cs : List (Nat × List Nat)) (k : Nat) (h : vc l G d mX12_fair TX12_fair Q cs k TX12_fair (lv_args 0 av) [] σ) (hlen : (lg_sl av).length ≤ mX12_fair.2.2.1 := by exact Nat.le_of_ble_eq_true rfl) : MW l G d mX12_fair av σ Q := mw_vc TX12_fair_ok mc_X12_fair rfl hlen cs k rfl h
theorem wX12_fair {l : Launch} {G : GT} {d : Nat} {Q : Po} {pc : Nat} {lv : Lv} {st : List Value} {σ : Mm} (cs : List (Nat × List Nat)) (k : Nat) (h : vc l G d mX12_fair TX12_fair Q cs k (drp TX12_fair pc) lv st σ) (hpc : hdp (drp TX12_fair pc) = pc := by rfl) : Wp l G d mX12_fair pc lv st σ Q := wp_vc TX12_fair_ok cs k hpc h
def TX12_sums : List In := [(0, 1, zt_aload 0), (1, 2, zt_ic 0), (2, 5, zt_putI 20 0), (5, 6, zt_aload 0), (6, 7, zt_aload 0), (7, 10, zt_getL 20 20), (10, 13, zt_callVF mX12_isOver 1 20), (13, 16, zt_if_ne 26), (16, 17, zt_iload 1), (17, 18, zt_i2l), (18, 19, zt_lc 0), (19, 20, zt_lc 1), (20, 23, zt_callSF mX12_isIn 3), (23, 26, zt_if_ne 28), (26, 27, zt_ic (-1)), (27, 28, zt_iret), (28, 29, zt_aload 0), (29, 30, zt_aload 0), (30, 33, zt_getL 20 20), (33, 36, zt_callVF mX12_laysYears 1 20), (36, 37, zt_ic 0), (37, 38, zt_istoreF 2), (38, 39, zt_aload 0), (39, 42, zt_getL 20 20), (42, 43, zt_ic 0), (43, 44, zt_iald), (44, 45, zt_ic 1), (45, 46, zt_iadd), (46, 47, zt_istoreF 3), (47, 48, zt_iload 3), (48, 49, zt_aload 0), (49, 52, zt_getL 20 6), (52, 53, zt_ic 1), (53, 54, zt_iald), (54, 57, zt_icmp_gt 90), (57, 58, zt_iload 2), (58, 59, zt_iload 1), (59, 62, zt_if_ne 76), (62, 63, zt_aload 0), (63, 64, zt_aload 0), (64, 67, zt_getL 20 20), (67, 68, zt_ic 2), (68, 69, zt_iald), (69, 70, zt_iload 3), (70, 73, zt_callVF mX12_interest 2 20), (73, 76, zt_goto 82), (76, 77, zt_aload 0), (77, 80, zt_getL 20 29), (80, 81, zt_iload 3), (81, 82, zt_iald), (82, 83, zt_iadd), (83, 84, zt_istoreF 2), (84, 87, zt_iincF 3 1), (87, 90, zt_goto 47), (90, 91, zt_iload 2), (91, 92, zt_iret)]
theorem TX12_sums_ok : ∀ i ∈ TX12_sums, Ent mX12_sums i := by
  refine List.forall_mem_cons.mpr ⟨ze_aload_n (k := 0) (by decide +kernel) rfl, ?_⟩
  refine List.forall_mem_cons.mpr ⟨ze_iconst (n := 0) (by decide +kernel) (by decide), ?_⟩
  refine List.forall_mem_cons.mpr ⟨ze_putI (by decide +kernel) fl_X12_82 ⟨_, _, _, rfl, rfl, by decide +kernel⟩ rfl, ?_⟩
  refine List.forall_mem_cons.mpr ⟨ze_aload_n (k := 0) (by decide +kernel) rfl, ?_⟩
  refine List.forall_mem_cons.mpr ⟨ze_aload_n (k := 0) (by decide +kernel) rfl, ?_⟩
  refine List.forall_mem_cons.mpr ⟨ze_getL (by decide +kernel) fl_X12_38 rfl (by decide), ?_⟩
  refine List.forall_mem_cons.mpr ⟨ze_callVF (idx := 304) (by decide +kernel) ml_X12_304 mv_X12_isOver rfl, ?_⟩
  refine List.forall_mem_cons.mpr ⟨ze_if_ne (off := 13) (by decide +kernel) (by decide), ?_⟩
  refine List.forall_mem_cons.mpr ⟨ze_iload_n (k := 1) (by decide +kernel) rfl, ?_⟩
  refine List.forall_mem_cons.mpr ⟨ze_i2l (by decide +kernel), ?_⟩
  refine List.forall_mem_cons.mpr ⟨ze_lconst (n := 0) (by decide +kernel) (by decide), ?_⟩
  refine List.forall_mem_cons.mpr ⟨ze_lconst (n := 1) (by decide +kernel) (by decide), ?_⟩
  refine List.forall_mem_cons.mpr ⟨ze_callSF (idx := 148) (by decide +kernel) ml_X12_148 ms_X12_isIn, ?_⟩
  refine List.forall_mem_cons.mpr ⟨ze_if_ne (off := 5) (by decide +kernel) (by decide), ?_⟩
  refine List.forall_mem_cons.mpr ⟨ze_iconst (n := -1) (by decide +kernel) (by decide), ?_⟩
  refine List.forall_mem_cons.mpr ⟨ze_iret (by decide +kernel) rfl, ?_⟩
  refine List.forall_mem_cons.mpr ⟨ze_aload_n (k := 0) (by decide +kernel) rfl, ?_⟩
  refine List.forall_mem_cons.mpr ⟨ze_aload_n (k := 0) (by decide +kernel) rfl, ?_⟩
  refine List.forall_mem_cons.mpr ⟨ze_getL (by decide +kernel) fl_X12_38 rfl (by decide), ?_⟩
  refine List.forall_mem_cons.mpr ⟨ze_callVF (idx := 289) (by decide +kernel) ml_X12_289 mv_X12_laysYears rfl, ?_⟩
  refine List.forall_mem_cons.mpr ⟨ze_iconst (n := 0) (by decide +kernel) (by decide), ?_⟩
  refine List.forall_mem_cons.mpr ⟨ze_istoreF_n (k := 2) (by decide +kernel) rfl (by decide), ?_⟩
  refine List.forall_mem_cons.mpr ⟨ze_aload_n (k := 0) (by decide +kernel) rfl, ?_⟩
  refine List.forall_mem_cons.mpr ⟨ze_getL (by decide +kernel) fl_X12_38 rfl (by decide), ?_⟩
  refine List.forall_mem_cons.mpr ⟨ze_iconst (n := 0) (by decide +kernel) (by decide), ?_⟩
  refine List.forall_mem_cons.mpr ⟨ze_iald (by decide +kernel), ?_⟩
  refine List.forall_mem_cons.mpr ⟨ze_iconst (n := 1) (by decide +kernel) (by decide), ?_⟩
  refine List.forall_mem_cons.mpr ⟨ze_iadd (by decide +kernel), ?_⟩
  refine List.forall_mem_cons.mpr ⟨ze_istoreF_n (k := 3) (by decide +kernel) rfl (by decide), ?_⟩
  refine List.forall_mem_cons.mpr ⟨ze_iload_n (k := 3) (by decide +kernel) rfl, ?_⟩
  refine List.forall_mem_cons.mpr ⟨ze_aload_n (k := 0) (by decide +kernel) rfl, ?_⟩
  refine List.forall_mem_cons.mpr ⟨ze_getL (by decide +kernel) fl_X12_17 rfl (by decide), ?_⟩
  refine List.forall_mem_cons.mpr ⟨ze_iconst (n := 1) (by decide +kernel) (by decide), ?_⟩
  refine List.forall_mem_cons.mpr ⟨ze_iald (by decide +kernel), ?_⟩
  refine List.forall_mem_cons.mpr ⟨ze_icmp_gt (off := 36) (by decide +kernel) (by decide), ?_⟩
  refine List.forall_mem_cons.mpr ⟨ze_iload_n (k := 2) (by decide +kernel) rfl, ?_⟩
  refine List.forall_mem_cons.mpr ⟨ze_iload_n (k := 1) (by decide +kernel) rfl, ?_⟩
  refine List.forall_mem_cons.mpr ⟨ze_if_ne (off := 17) (by decide +kernel) (by decide), ?_⟩
  refine List.forall_mem_cons.mpr ⟨ze_aload_n (k := 0) (by decide +kernel) rfl, ?_⟩
  refine List.forall_mem_cons.mpr ⟨ze_aload_n (k := 0) (by decide +kernel) rfl, ?_⟩
  refine List.forall_mem_cons.mpr ⟨ze_getL (by decide +kernel) fl_X12_38 rfl (by decide), ?_⟩
  refine List.forall_mem_cons.mpr ⟨ze_iconst (n := 2) (by decide +kernel) (by decide), ?_⟩
  refine List.forall_mem_cons.mpr ⟨ze_iald (by decide +kernel), ?_⟩
  refine List.forall_mem_cons.mpr ⟨ze_iload_n (k := 3) (by decide +kernel) rfl, ?_⟩
  refine List.forall_mem_cons.mpr ⟨ze_callVF (idx := 241) (by decide +kernel) ml_X12_241 mv_X12_interest rfl, ?_⟩
  refine List.forall_mem_cons.mpr ⟨ze_goto (off := 9) (by decide +kernel) (by decide), ?_⟩
  refine List.forall_mem_cons.mpr ⟨ze_aload_n (k := 0) (by decide +kernel) rfl, ?_⟩
  refine List.forall_mem_cons.mpr ⟨ze_getL (by decide +kernel) fl_X12_53 rfl (by decide), ?_⟩
  refine List.forall_mem_cons.mpr ⟨ze_iload_n (k := 3) (by decide +kernel) rfl, ?_⟩
  refine List.forall_mem_cons.mpr ⟨ze_iald (by decide +kernel), ?_⟩
  refine List.forall_mem_cons.mpr ⟨ze_iadd (by decide +kernel), ?_⟩
  refine List.forall_mem_cons.mpr ⟨ze_istoreF_n (k := 2) (by decide +kernel) rfl (by decide), ?_⟩
  refine List.forall_mem_cons.mpr ⟨ze_iincF (n := 1) (by decide +kernel) (by decide) (by decide), ?_⟩
  refine List.forall_mem_cons.mpr ⟨ze_goto (off := -40) (by decide +kernel) (by decide), ?_⟩
  refine List.forall_mem_cons.mpr ⟨ze_iload_n (k := 2) (by decide +kernel) rfl, ?_⟩
  refine List.forall_mem_cons.mpr ⟨ze_iret (by decide +kernel) rfl, ?_⟩
  exact fun _ h => absurd h List.not_mem_nil
theorem vX12_sums {l : Launch} {G : GT} {d : Nat} {av : List Value} {Q : Po} {σ : Mm} (cs : List (Nat × List Nat)) (k : Nat) (h : vc l G d mX12_sums TX12_sums Q cs k TX12_sums (lv_args 0 av) [] σ) (hlen : (lg_sl av).length ≤ mX12_sums.2.2.1 := by exact Nat.le_of_ble_eq_true rfl) : MW l G d mX12_sums av σ Q := mw_vc TX12_sums_ok mc_X12_sums rfl hlen cs k rfl h
theorem wX12_sums {l : Launch} {G : GT} {d : Nat} {Q : Po} {pc : Nat} {lv : Lv} {st : List Value} {σ : Mm} (cs : List (Nat × List Nat)) (k : Nat) (h : vc l G d mX12_sums TX12_sums Q cs k (drp TX12_sums pc) lv st σ) (hpc : hdp (drp TX12_sums pc) = pc := by rfl) : Wp l G d mX12_sums pc lv st σ Q := wp_vc TX12_sums_ok cs k hpc h
def TX12_shifted : List In := [(0, 1, zt_aload 0), (1, 2, zt_ic 0), (2, 5, zt_putI 20 0), (5, 6, zt_aload 0), (6, 7, zt_aload 0), (7, 10, zt_getL 20 20), (10, 13, zt_callVF mX12_isOver 1 20), (13, 16, zt_if_ne 30), (16, 17, zt_iload 1), (17, 18, zt_i2l), (18, 21, zt_lc (-99 : Int64)), (21, 24, zt_lc (99 : Int64)), (24, 27, zt_callSF mX12_isIn 3), (27, 30, zt_if_ne 34), (30, 33, zt_lc (-1 : Int64)), (33, 34, zt_lret), (34, 35, zt_aload 0), (35, 36, zt_iload 1), (36, 39, zt_putI 20 27), (39, 40, zt_aload 0), (40, 41, zt_aload 0), (41, 44, zt_getL 20 20), (44, 45, zt_aload 0), (45, 48, zt_getL 20 31), (48, 49, zt_ic 0), (49, 50, zt_aload 0), (50, 53, zt_getL 20 20), (53, 54, zt_ic 2), (54, 55, zt_iald), (55, 56, zt_aload 0), (56, 59, zt_getL 20 20), (59, 60, zt_ic 3), (60, 61, zt_iald), (61, 64, zt_callVF mX12_lays 5 20), (64, 65, zt_aload 0), (65, 66, zt_ic 0), (66, 69, zt_putI 20 27), (69, 70, zt_aload 0), (70, 71, zt_aload 0), (71, 74, zt_getL 20 31), (74, 77, zt_callVF mX12_here_ 1 20), (77, 78, zt_lret)]
theorem TX12_shifted_ok : ∀ i ∈ TX12_shifted, Ent mX12_shifted i := by
  refine List.forall_mem_cons.mpr ⟨ze_aload_n (k := 0) (by decide +kernel) rfl, ?_⟩
  refine List.forall_mem_cons.mpr ⟨ze_iconst (n := 0) (by decide +kernel) (by decide), ?_⟩
  refine List.forall_mem_cons.mpr ⟨ze_putI (by decide +kernel) fl_X12_82 ⟨_, _, _, rfl, rfl, by decide +kernel⟩ rfl, ?_⟩
  refine List.forall_mem_cons.mpr ⟨ze_aload_n (k := 0) (by decide +kernel) rfl, ?_⟩
  refine List.forall_mem_cons.mpr ⟨ze_aload_n (k := 0) (by decide +kernel) rfl, ?_⟩
  refine List.forall_mem_cons.mpr ⟨ze_getL (by decide +kernel) fl_X12_38 rfl (by decide), ?_⟩
  refine List.forall_mem_cons.mpr ⟨ze_callVF (idx := 304) (by decide +kernel) ml_X12_304 mv_X12_isOver rfl, ?_⟩
  refine List.forall_mem_cons.mpr ⟨ze_if_ne (off := 17) (by decide +kernel) (by decide), ?_⟩
  refine List.forall_mem_cons.mpr ⟨ze_iload_n (k := 1) (by decide +kernel) rfl, ?_⟩
  refine List.forall_mem_cons.mpr ⟨ze_i2l (by decide +kernel), ?_⟩
  refine List.forall_mem_cons.mpr ⟨ze_ldc2 (i := 447) (by decide +kernel) kc_X12_447, ?_⟩
  refine List.forall_mem_cons.mpr ⟨ze_ldc2 (i := 449) (by decide +kernel) kc_X12_449, ?_⟩
  refine List.forall_mem_cons.mpr ⟨ze_callSF (idx := 148) (by decide +kernel) ml_X12_148 ms_X12_isIn, ?_⟩
  refine List.forall_mem_cons.mpr ⟨ze_if_ne (off := 7) (by decide +kernel) (by decide), ?_⟩
  refine List.forall_mem_cons.mpr ⟨ze_ldc2 (i := 397) (by decide +kernel) kc_X12_397, ?_⟩
  refine List.forall_mem_cons.mpr ⟨ze_lret (by decide +kernel) rfl, ?_⟩
  refine List.forall_mem_cons.mpr ⟨ze_aload_n (k := 0) (by decide +kernel) rfl, ?_⟩
  refine List.forall_mem_cons.mpr ⟨ze_iload_n (k := 1) (by decide +kernel) rfl, ?_⟩
  refine List.forall_mem_cons.mpr ⟨ze_putI (by decide +kernel) fl_X12_234 ⟨_, _, _, rfl, rfl, by decide +kernel⟩ rfl, ?_⟩
  refine List.forall_mem_cons.mpr ⟨ze_aload_n (k := 0) (by decide +kernel) rfl, ?_⟩
  refine List.forall_mem_cons.mpr ⟨ze_aload_n (k := 0) (by decide +kernel) rfl, ?_⟩
  refine List.forall_mem_cons.mpr ⟨ze_getL (by decide +kernel) fl_X12_38 rfl (by decide), ?_⟩
  refine List.forall_mem_cons.mpr ⟨ze_aload_n (k := 0) (by decide +kernel) rfl, ?_⟩
  refine List.forall_mem_cons.mpr ⟨ze_getL (by decide +kernel) fl_X12_60 rfl (by decide), ?_⟩
  refine List.forall_mem_cons.mpr ⟨ze_iconst (n := 0) (by decide +kernel) (by decide), ?_⟩
  refine List.forall_mem_cons.mpr ⟨ze_aload_n (k := 0) (by decide +kernel) rfl, ?_⟩
  refine List.forall_mem_cons.mpr ⟨ze_getL (by decide +kernel) fl_X12_38 rfl (by decide), ?_⟩
  refine List.forall_mem_cons.mpr ⟨ze_iconst (n := 2) (by decide +kernel) (by decide), ?_⟩
  refine List.forall_mem_cons.mpr ⟨ze_iald (by decide +kernel), ?_⟩
  refine List.forall_mem_cons.mpr ⟨ze_aload_n (k := 0) (by decide +kernel) rfl, ?_⟩
  refine List.forall_mem_cons.mpr ⟨ze_getL (by decide +kernel) fl_X12_38 rfl (by decide), ?_⟩
  refine List.forall_mem_cons.mpr ⟨ze_iconst (n := 3) (by decide +kernel) (by decide), ?_⟩
  refine List.forall_mem_cons.mpr ⟨ze_iald (by decide +kernel), ?_⟩
  refine List.forall_mem_cons.mpr ⟨ze_callVF (idx := 300) (by decide +kernel) ml_X12_300 mv_X12_lays rfl, ?_⟩
  refine List.forall_mem_cons.mpr ⟨ze_aload_n (k := 0) (by decide +kernel) rfl, ?_⟩
  refine List.forall_mem_cons.mpr ⟨ze_iconst (n := 0) (by decide +kernel) (by decide), ?_⟩
  refine List.forall_mem_cons.mpr ⟨ze_putI (by decide +kernel) fl_X12_234 ⟨_, _, _, rfl, rfl, by decide +kernel⟩ rfl, ?_⟩
  refine List.forall_mem_cons.mpr ⟨ze_aload_n (k := 0) (by decide +kernel) rfl, ?_⟩
  refine List.forall_mem_cons.mpr ⟨ze_aload_n (k := 0) (by decide +kernel) rfl, ?_⟩
  refine List.forall_mem_cons.mpr ⟨ze_getL (by decide +kernel) fl_X12_60 rfl (by decide), ?_⟩
  refine List.forall_mem_cons.mpr ⟨ze_callVF (idx := 444) (by decide +kernel) ml_X12_444 mv_X12_here_ rfl, ?_⟩
  refine List.forall_mem_cons.mpr ⟨ze_lret (by decide +kernel) rfl, ?_⟩
  exact fun _ h => absurd h List.not_mem_nil
theorem vX12_shifted {l : Launch} {G : GT} {d : Nat} {av : List Value} {Q : Po} {σ : Mm} (cs : List (Nat × List Nat)) (k : Nat) (h : vc l G d mX12_shifted TX12_shifted Q cs k TX12_shifted (lv_args 0 av) [] σ) (hlen : (lg_sl av).length ≤ mX12_shifted.2.2.1 := by exact Nat.le_of_ble_eq_true rfl) : MW l G d mX12_shifted av σ Q := mw_vc TX12_shifted_ok mc_X12_shifted rfl hlen cs k rfl h
theorem wX12_shifted {l : Launch} {G : GT} {d : Nat} {Q : Po} {pc : Nat} {lv : Lv} {st : List Value} {σ : Mm} (cs : List (Nat × List Nat)) (k : Nat) (h : vc l G d mX12_shifted TX12_shifted Q cs k (drp TX12_shifted pc) lv st σ) (hpc : hdp (drp TX12_shifted pc) = pc := by rfl) : Wp l G d mX12_shifted pc lv st σ Q := wp_vc TX12_shifted_ok cs k hpc h
def TX12_deed : List In := [(0, 1, zt_aload 0), (1, 2, zt_ic 0), (2, 5, zt_putI 20 0), (5, 6, zt_aload 0), (6, 7, zt_iload 1), (7, 8, zt_iload 2), (8, 11, zt_callVF mX12_isNode 2 20), (11, 14, zt_if_eq 31), (14, 15, zt_aload 0), (15, 18, zt_getL 20 20), (18, 21, zt_ic 169), (21, 22, zt_iload 1), (22, 23, zt_iload 2), (23, 26, zt_callSF mX12_node 2), (26, 27, zt_iadd), (27, 28, zt_iald), (28, 31, zt_goto 32), (31, 32, zt_ic (-1)), (32, 33, zt_iret)]
theorem TX12_deed_ok : ∀ i ∈ TX12_deed, Ent mX12_deed i := by
  refine List.forall_mem_cons.mpr ⟨ze_aload_n (k := 0) (by decide +kernel) rfl, ?_⟩
  refine List.forall_mem_cons.mpr ⟨ze_iconst (n := 0) (by decide +kernel) (by decide), ?_⟩
  refine List.forall_mem_cons.mpr ⟨ze_putI (by decide +kernel) fl_X12_82 ⟨_, _, _, rfl, rfl, by decide +kernel⟩ rfl, ?_⟩
  refine List.forall_mem_cons.mpr ⟨ze_aload_n (k := 0) (by decide +kernel) rfl, ?_⟩
  refine List.forall_mem_cons.mpr ⟨ze_iload_n (k := 1) (by decide +kernel) rfl, ?_⟩
  refine List.forall_mem_cons.mpr ⟨ze_iload_n (k := 2) (by decide +kernel) rfl, ?_⟩
  refine List.forall_mem_cons.mpr ⟨ze_callVF (idx := 206) (by decide +kernel) ml_X12_206 mv_X12_isNode rfl, ?_⟩
  refine List.forall_mem_cons.mpr ⟨ze_if_eq (off := 20) (by decide +kernel) (by decide), ?_⟩
  refine List.forall_mem_cons.mpr ⟨ze_aload_n (k := 0) (by decide +kernel) rfl, ?_⟩
  refine List.forall_mem_cons.mpr ⟨ze_getL (by decide +kernel) fl_X12_38 rfl (by decide), ?_⟩
  refine List.forall_mem_cons.mpr ⟨ze_sipush (n := 169) (by decide +kernel) (by decide), ?_⟩
  refine List.forall_mem_cons.mpr ⟨ze_iload_n (k := 1) (by decide +kernel) rfl, ?_⟩
  refine List.forall_mem_cons.mpr ⟨ze_iload_n (k := 2) (by decide +kernel) rfl, ?_⟩
  refine List.forall_mem_cons.mpr ⟨ze_callSF (idx := 210) (by decide +kernel) ml_X12_210 ms_X12_node, ?_⟩
  refine List.forall_mem_cons.mpr ⟨ze_iadd (by decide +kernel), ?_⟩
  refine List.forall_mem_cons.mpr ⟨ze_iald (by decide +kernel), ?_⟩
  refine List.forall_mem_cons.mpr ⟨ze_goto (off := 4) (by decide +kernel) (by decide), ?_⟩
  refine List.forall_mem_cons.mpr ⟨ze_iconst (n := -1) (by decide +kernel) (by decide), ?_⟩
  refine List.forall_mem_cons.mpr ⟨ze_iret (by decide +kernel) rfl, ?_⟩
  exact fun _ h => absurd h List.not_mem_nil
theorem vX12_deed {l : Launch} {G : GT} {d : Nat} {av : List Value} {Q : Po} {σ : Mm} (cs : List (Nat × List Nat)) (k : Nat) (h : vc l G d mX12_deed TX12_deed Q cs k TX12_deed (lv_args 0 av) [] σ) (hlen : (lg_sl av).length ≤ mX12_deed.2.2.1 := by exact Nat.le_of_ble_eq_true rfl) : MW l G d mX12_deed av σ Q := mw_vc TX12_deed_ok mc_X12_deed rfl hlen cs k rfl h
theorem wX12_deed {l : Launch} {G : GT} {d : Nat} {Q : Po} {pc : Nat} {lv : Lv} {st : List Value} {σ : Mm} (cs : List (Nat × List Nat)) (k : Nat) (h : vc l G d mX12_deed TX12_deed Q cs k (drp TX12_deed pc) lv st σ) (hpc : hdp (drp TX12_deed pc) = pc := by rfl) : Wp l G d mX12_deed pc lv st σ Q := wp_vc TX12_deed_ok cs k hpc h
def TX12_byPolicy : List In := [(0, 1, zt_aload 0), (1, 2, zt_ic 0), (2, 5, zt_putI 20 0), (5, 6, zt_aload 0), (6, 7, zt_iload 1), (7, 8, zt_iload 2), (8, 11, zt_callVF mX12_isNode 2 20), (11, 14, zt_if_ne 18), (14, 17, zt_lc (-1 : Int64)), (17, 18, zt_lret), (18, 19, zt_aload 0), (19, 20, zt_aload 0), (20, 23, zt_getL 20 20), (23, 26, zt_callVF mX12_laysPolicy 1 20), (26, 27, zt_aload 0), (27, 30, zt_getL 20 32), (30, 31, zt_aload 0), (31, 34, zt_getL 20 20), (34, 35, zt_ic 3), (35, 36, zt_iald), (36, 37, zt_ic 0), (37, 38, zt_iload 1), (38, 39, zt_iload 2), (39, 42, zt_callSF mX12_cell 4), (42, 43, zt_lald), (43, 44, zt_lret)]
theorem TX12_byPolicy_ok : ∀ i ∈ TX12_byPolicy, Ent mX12_byPolicy i := by
  refine List.forall_mem_cons.mpr ⟨ze_aload_n (k := 0) (by decide +kernel) rfl, ?_⟩
  refine List.forall_mem_cons.mpr ⟨ze_iconst (n := 0) (by decide +kernel) (by decide), ?_⟩
  refine List.forall_mem_cons.mpr ⟨ze_putI (by decide +kernel) fl_X12_82 ⟨_, _, _, rfl, rfl, by decide +kernel⟩ rfl, ?_⟩
  refine List.forall_mem_cons.mpr ⟨ze_aload_n (k := 0) (by decide +kernel) rfl, ?_⟩
  refine List.forall_mem_cons.mpr ⟨ze_iload_n (k := 1) (by decide +kernel) rfl, ?_⟩
  refine List.forall_mem_cons.mpr ⟨ze_iload_n (k := 2) (by decide +kernel) rfl, ?_⟩
  refine List.forall_mem_cons.mpr ⟨ze_callVF (idx := 206) (by decide +kernel) ml_X12_206 mv_X12_isNode rfl, ?_⟩
  refine List.forall_mem_cons.mpr ⟨ze_if_ne (off := 7) (by decide +kernel) (by decide), ?_⟩
  refine List.forall_mem_cons.mpr ⟨ze_ldc2 (i := 397) (by decide +kernel) kc_X12_397, ?_⟩
  refine List.forall_mem_cons.mpr ⟨ze_lret (by decide +kernel) rfl, ?_⟩
  refine List.forall_mem_cons.mpr ⟨ze_aload_n (k := 0) (by decide +kernel) rfl, ?_⟩
  refine List.forall_mem_cons.mpr ⟨ze_aload_n (k := 0) (by decide +kernel) rfl, ?_⟩
  refine List.forall_mem_cons.mpr ⟨ze_getL (by decide +kernel) fl_X12_38 rfl (by decide), ?_⟩
  refine List.forall_mem_cons.mpr ⟨ze_callVF (idx := 441) (by decide +kernel) ml_X12_441 mv_X12_laysPolicy rfl, ?_⟩
  refine List.forall_mem_cons.mpr ⟨ze_aload_n (k := 0) (by decide +kernel) rfl, ?_⟩
  refine List.forall_mem_cons.mpr ⟨ze_getL (by decide +kernel) fl_X12_64 rfl (by decide), ?_⟩
  refine List.forall_mem_cons.mpr ⟨ze_aload_n (k := 0) (by decide +kernel) rfl, ?_⟩
  refine List.forall_mem_cons.mpr ⟨ze_getL (by decide +kernel) fl_X12_38 rfl (by decide), ?_⟩
  refine List.forall_mem_cons.mpr ⟨ze_iconst (n := 3) (by decide +kernel) (by decide), ?_⟩
  refine List.forall_mem_cons.mpr ⟨ze_iald (by decide +kernel), ?_⟩
  refine List.forall_mem_cons.mpr ⟨ze_iconst (n := 0) (by decide +kernel) (by decide), ?_⟩
  refine List.forall_mem_cons.mpr ⟨ze_iload_n (k := 1) (by decide +kernel) rfl, ?_⟩
  refine List.forall_mem_cons.mpr ⟨ze_iload_n (k := 2) (by decide +kernel) rfl, ?_⟩
  refine List.forall_mem_cons.mpr ⟨ze_callSF (idx := 246) (by decide +kernel) ml_X12_246 ms_X12_cell, ?_⟩
  refine List.forall_mem_cons.mpr ⟨ze_lald (by decide +kernel), ?_⟩
  refine List.forall_mem_cons.mpr ⟨ze_lret (by decide +kernel) rfl, ?_⟩
  exact fun _ h => absurd h List.not_mem_nil
theorem vX12_byPolicy {l : Launch} {G : GT} {d : Nat} {av : List Value} {Q : Po} {σ : Mm} (cs : List (Nat × List Nat)) (k : Nat) (h : vc l G d mX12_byPolicy TX12_byPolicy Q cs k TX12_byPolicy (lv_args 0 av) [] σ) (hlen : (lg_sl av).length ≤ mX12_byPolicy.2.2.1 := by exact Nat.le_of_ble_eq_true rfl) : MW l G d mX12_byPolicy av σ Q := mw_vc TX12_byPolicy_ok mc_X12_byPolicy rfl hlen cs k rfl h
theorem wX12_byPolicy {l : Launch} {G : GT} {d : Nat} {Q : Po} {pc : Nat} {lv : Lv} {st : List Value} {σ : Mm} (cs : List (Nat × List Nat)) (k : Nat) (h : vc l G d mX12_byPolicy TX12_byPolicy Q cs k (drp TX12_byPolicy pc) lv st σ) (hpc : hdp (drp TX12_byPolicy pc) = pc := by rfl) : Wp l G d mX12_byPolicy pc lv st σ Q := wp_vc TX12_byPolicy_ok cs k hpc h
def TX12_regret : List In := [(0, 1, zt_aload 0), (1, 2, zt_ic 0), (2, 5, zt_putI 20 0), (5, 6, zt_aload 0), (6, 7, zt_aload 0), (7, 10, zt_getL 20 20), (10, 13, zt_callVF mX12_isOver 1 20), (13, 16, zt_if_eq 20), (16, 19, zt_lc (-1 : Int64)), (19, 20, zt_lret), (20, 21, zt_aload 0), (21, 22, zt_aload 0), (22, 25, zt_getL 20 20), (25, 28, zt_callVF mX12_laysPolicy 1 20), (28, 29, zt_aload 0), (29, 32, zt_callVF mX12_laysNow 0 20), (32, 33, zt_aload 0), (33, 34, zt_aload 0), (34, 37, zt_getL 20 32), (37, 40, zt_callVF mX12_here_ 1 20), (40, 41, zt_aload 0), (41, 42, zt_aload 0), (42, 45, zt_getL 20 31), (45, 48, zt_callVF mX12_here_ 1 20), (48, 49, zt_lsub), (49, 50, zt_lret)]
theorem TX12_regret_ok : ∀ i ∈ TX12_regret, Ent mX12_regret i := by
  refine List.forall_mem_cons.mpr ⟨ze_aload_n (k := 0) (by decide +kernel) rfl, ?_⟩
  refine List.forall_mem_cons.mpr ⟨ze_iconst (n := 0) (by decide +kernel) (by decide), ?_⟩
  refine List.forall_mem_cons.mpr ⟨ze_putI (by decide +kernel) fl_X12_82 ⟨_, _, _, rfl, rfl, by decide +kernel⟩ rfl, ?_⟩
  refine List.forall_mem_cons.mpr ⟨ze_aload_n (k := 0) (by decide +kernel) rfl, ?_⟩
  refine List.forall_mem_cons.mpr ⟨ze_aload_n (k := 0) (by decide +kernel) rfl, ?_⟩
  refine List.forall_mem_cons.mpr ⟨ze_getL (by decide +kernel) fl_X12_38 rfl (by decide), ?_⟩
  refine List.forall_mem_cons.mpr ⟨ze_callVF (idx := 304) (by decide +kernel) ml_X12_304 mv_X12_isOver rfl, ?_⟩
  refine List.forall_mem_cons.mpr ⟨ze_if_eq (off := 7) (by decide +kernel) (by decide), ?_⟩
  refine List.forall_mem_cons.mpr ⟨ze_ldc2 (i := 397) (by decide +kernel) kc_X12_397, ?_⟩
  refine List.forall_mem_cons.mpr ⟨ze_lret (by decide +kernel) rfl, ?_⟩
  refine List.forall_mem_cons.mpr ⟨ze_aload_n (k := 0) (by decide +kernel) rfl, ?_⟩
  refine List.forall_mem_cons.mpr ⟨ze_aload_n (k := 0) (by decide +kernel) rfl, ?_⟩
  refine List.forall_mem_cons.mpr ⟨ze_getL (by decide +kernel) fl_X12_38 rfl (by decide), ?_⟩
  refine List.forall_mem_cons.mpr ⟨ze_callVF (idx := 441) (by decide +kernel) ml_X12_441 mv_X12_laysPolicy rfl, ?_⟩
  refine List.forall_mem_cons.mpr ⟨ze_aload_n (k := 0) (by decide +kernel) rfl, ?_⟩
  refine List.forall_mem_cons.mpr ⟨ze_callVF (idx := 399) (by decide +kernel) ml_X12_399 mv_X12_laysNow rfl, ?_⟩
  refine List.forall_mem_cons.mpr ⟨ze_aload_n (k := 0) (by decide +kernel) rfl, ?_⟩
  refine List.forall_mem_cons.mpr ⟨ze_aload_n (k := 0) (by decide +kernel) rfl, ?_⟩
  refine List.forall_mem_cons.mpr ⟨ze_getL (by decide +kernel) fl_X12_64 rfl (by decide), ?_⟩
  refine List.forall_mem_cons.mpr ⟨ze_callVF (idx := 444) (by decide +kernel) ml_X12_444 mv_X12_here_ rfl, ?_⟩
  refine List.forall_mem_cons.mpr ⟨ze_aload_n (k := 0) (by decide +kernel) rfl, ?_⟩
  refine List.forall_mem_cons.mpr ⟨ze_aload_n (k := 0) (by decide +kernel) rfl, ?_⟩
  refine List.forall_mem_cons.mpr ⟨ze_getL (by decide +kernel) fl_X12_60 rfl (by decide), ?_⟩
  refine List.forall_mem_cons.mpr ⟨ze_callVF (idx := 444) (by decide +kernel) ml_X12_444 mv_X12_here_ rfl, ?_⟩
  refine List.forall_mem_cons.mpr ⟨ze_lsub (by decide +kernel), ?_⟩
  refine List.forall_mem_cons.mpr ⟨ze_lret (by decide +kernel) rfl, ?_⟩
  exact fun _ h => absurd h List.not_mem_nil
theorem vX12_regret {l : Launch} {G : GT} {d : Nat} {av : List Value} {Q : Po} {σ : Mm} (cs : List (Nat × List Nat)) (k : Nat) (h : vc l G d mX12_regret TX12_regret Q cs k TX12_regret (lv_args 0 av) [] σ) (hlen : (lg_sl av).length ≤ mX12_regret.2.2.1 := by exact Nat.le_of_ble_eq_true rfl) : MW l G d mX12_regret av σ Q := mw_vc TX12_regret_ok mc_X12_regret rfl hlen cs k rfl h
theorem wX12_regret {l : Launch} {G : GT} {d : Nat} {Q : Po} {pc : Nat} {lv : Lv} {st : List Value} {σ : Mm} (cs : List (Nat × List Nat)) (k : Nat) (h : vc l G d mX12_regret TX12_regret Q cs k (drp TX12_regret pc) lv st σ) (hpc : hdp (drp TX12_regret pc) = pc := by rfl) : Wp l G d mX12_regret pc lv st σ Q := wp_vc TX12_regret_ok cs k hpc h
def TX12_strays : List In := [(0, 1, zt_aload 0), (1, 2, zt_ic 0), (2, 5, zt_putI 20 0), (5, 6, zt_aload 0), (6, 7, zt_aload 0), (7, 10, zt_getL 20 20), (10, 13, zt_callVF mX12_isOver 1 20), (13, 16, zt_if_ne 28), (16, 17, zt_iload 1), (17, 18, zt_i2l), (18, 19, zt_lc 0), (19, 22, zt_lc (2 : Int64)), (22, 25, zt_callSF mX12_isIn 3), (25, 28, zt_if_ne 30), (28, 29, zt_ic (-1)), (29, 30, zt_iret), (30, 31, zt_aload 0), (31, 34, zt_callVF mX12_laysNow 0 20), (34, 35, zt_ic 0), (35, 36, zt_istoreF 2), (36, 37, zt_ic (-1)), (37, 38, zt_istoreF 3), (38, 39, zt_aload 0), (39, 42, zt_getL 20 20), (42, 43, zt_ic 0), (43, 44, zt_iald), (44, 46, zt_istoreF 4), (46, 48, zt_iload 4), (48, 49, zt_aload 0), (49, 52, zt_getL 20 6), (52, 53, zt_ic 1), (53, 54, zt_iald), (54, 57, zt_icmp_ge 162), (57, 58, zt_ic 0), (58, 60, zt_istoreF 5), (60, 62, zt_iload 5), (62, 64, zt_iload 4), (64, 67, zt_icmp_gt 156), (67, 68, zt_aload 0), (68, 71, zt_getL 20 20), (71, 73, zt_iload 4), (73, 75, zt_iload 5), (75, 78, zt_callSF mX12_canCome 3), (78, 81, zt_if_eq 150), (81, 82, zt_aload 0), (82, 83, zt_aload 0), (83, 86, zt_getL 20 20), (86, 87, zt_aload 0), (87, 90, zt_getL 20 20), (90, 91, zt_ic 3), (91, 92, zt_iald), (92, 94, zt_iload 4), (94, 96, zt_iload 5), (96, 99, zt_callVF mX12_policyDeed 4 20), (99, 100, zt_aload 0), (100, 101, zt_aload 0), (101, 104, zt_getL 20 20), (104, 105, zt_aload 0), (105, 108, zt_getL 20 31), (108, 109, zt_aload 0), (109, 112, zt_getL 20 20), (112, 113, zt_ic 3), (113, 114, zt_iald), (114, 115, zt_ic 0), (115, 116, zt_aload 0), (116, 119, zt_getL 20 20), (119, 120, zt_ic 2), (120, 121, zt_iald), (121, 123, zt_iload 4), (123, 125, zt_iload 5), (125, 128, zt_callVF mX12_bestDeed 7 20), (128, 131, zt_icmp_ne 134), (131, 134, zt_goto 150), (134, 137, zt_iincF 2 1), (137, 138, zt_iload 3), (138, 139, zt_ic (-1)), (139, 142, zt_icmp_ne 150), (142, 144, zt_iload 4), (144, 146, zt_iload 5), (146, 149, zt_callSF mX12_node 2), (149, 150, zt_istoreF 3), (150, 153, zt_iincF 5 1), (153, 156, zt_goto 60), (156, 159, zt_iincF 4 1), (159, 162, zt_goto 46), (162, 163, zt_iload 1), (163, 166, zt_if_ne 170), (166, 167, zt_iload 2), (167, 170, zt_goto 195), (170, 171, zt_iload 3), (171, 172, zt_ic (-1)), (172, 175, zt_icmp_ne 179), (175, 176, zt_ic (-1)), (176, 179, zt_goto 195), (179, 180, zt_iload 1), (180, 181, zt_ic 1), (181, 184, zt_icmp_ne 191), (184, 185, zt_iload 3), (185, 187, zt_ic 12), (187, 188, zt_idiv), (188, 191, zt_goto 195), (191, 192, zt_iload 3), (192, 194, zt_ic 12), (194, 195, zt_irem), (195, 196, zt_iret)]
theorem TX12_strays_ok : ∀ i ∈ TX12_strays, Ent mX12_strays i := by
  refine List.forall_mem_cons.mpr ⟨ze_aload_n (k := 0) (by decide +kernel) rfl, ?_⟩
  refine List.forall_mem_cons.mpr ⟨ze_iconst (n := 0) (by decide +kernel) (by decide), ?_⟩
  refine List.forall_mem_cons.mpr ⟨ze_putI (by decide +kernel) fl_X12_82 ⟨_, _, _, rfl, rfl, by decide +kernel⟩ rfl, ?_⟩
  refine List.forall_mem_cons.mpr ⟨ze_aload_n (k := 0) (by decide +kernel) rfl, ?_⟩
  refine List.forall_mem_cons.mpr ⟨ze_aload_n (k := 0) (by decide +kernel) rfl, ?_⟩
  refine List.forall_mem_cons.mpr ⟨ze_getL (by decide +kernel) fl_X12_38 rfl (by decide), ?_⟩
  refine List.forall_mem_cons.mpr ⟨ze_callVF (idx := 304) (by decide +kernel) ml_X12_304 mv_X12_isOver rfl, ?_⟩
  refine List.forall_mem_cons.mpr ⟨ze_if_ne (off := 15) (by decide +kernel) (by decide), ?_⟩
  refine List.forall_mem_cons.mpr ⟨ze_iload_n (k := 1) (by decide +kernel) rfl, ?_⟩
  refine List.forall_mem_cons.mpr ⟨ze_i2l (by decide +kernel), ?_⟩
  refine List.forall_mem_cons.mpr ⟨ze_lconst (n := 0) (by decide +kernel) (by decide), ?_⟩
  refine List.forall_mem_cons.mpr ⟨ze_ldc2 (i := 191) (by decide +kernel) kc_X12_191, ?_⟩
  refine List.forall_mem_cons.mpr ⟨ze_callSF (idx := 148) (by decide +kernel) ml_X12_148 ms_X12_isIn, ?_⟩
  refine List.forall_mem_cons.mpr ⟨ze_if_ne (off := 5) (by decide +kernel) (by decide), ?_⟩
  refine List.forall_mem_cons.mpr ⟨ze_iconst (n := -1) (by decide +kernel) (by decide), ?_⟩
  refine List.forall_mem_cons.mpr ⟨ze_iret (by decide +kernel) rfl, ?_⟩
  refine List.forall_mem_cons.mpr ⟨ze_aload_n (k := 0) (by decide +kernel) rfl, ?_⟩
  refine List.forall_mem_cons.mpr ⟨ze_callVF (idx := 399) (by decide +kernel) ml_X12_399 mv_X12_laysNow rfl, ?_⟩
  refine List.forall_mem_cons.mpr ⟨ze_iconst (n := 0) (by decide +kernel) (by decide), ?_⟩
  refine List.forall_mem_cons.mpr ⟨ze_istoreF_n (k := 2) (by decide +kernel) rfl (by decide), ?_⟩
  refine List.forall_mem_cons.mpr ⟨ze_iconst (n := -1) (by decide +kernel) (by decide), ?_⟩
  refine List.forall_mem_cons.mpr ⟨ze_istoreF_n (k := 3) (by decide +kernel) rfl (by decide), ?_⟩
  refine List.forall_mem_cons.mpr ⟨ze_aload_n (k := 0) (by decide +kernel) rfl, ?_⟩
  refine List.forall_mem_cons.mpr ⟨ze_getL (by decide +kernel) fl_X12_38 rfl (by decide), ?_⟩
  refine List.forall_mem_cons.mpr ⟨ze_iconst (n := 0) (by decide +kernel) (by decide), ?_⟩
  refine List.forall_mem_cons.mpr ⟨ze_iald (by decide +kernel), ?_⟩
  refine List.forall_mem_cons.mpr ⟨ze_istoreF (by decide +kernel) (by decide), ?_⟩
  refine List.forall_mem_cons.mpr ⟨ze_iload (by decide +kernel), ?_⟩
  refine List.forall_mem_cons.mpr ⟨ze_aload_n (k := 0) (by decide +kernel) rfl, ?_⟩
  refine List.forall_mem_cons.mpr ⟨ze_getL (by decide +kernel) fl_X12_17 rfl (by decide), ?_⟩
  refine List.forall_mem_cons.mpr ⟨ze_iconst (n := 1) (by decide +kernel) (by decide), ?_⟩
  refine List.forall_mem_cons.mpr ⟨ze_iald (by decide +kernel), ?_⟩
  refine List.forall_mem_cons.mpr ⟨ze_icmp_ge (off := 108) (by decide +kernel) (by decide), ?_⟩
  refine List.forall_mem_cons.mpr ⟨ze_iconst (n := 0) (by decide +kernel) (by decide), ?_⟩
  refine List.forall_mem_cons.mpr ⟨ze_istoreF (by decide +kernel) (by decide), ?_⟩
  refine List.forall_mem_cons.mpr ⟨ze_iload (by decide +kernel), ?_⟩
  refine List.forall_mem_cons.mpr ⟨ze_iload (by decide +kernel), ?_⟩
  refine List.forall_mem_cons.mpr ⟨ze_icmp_gt (off := 92) (by decide +kernel) (by decide), ?_⟩
  refine List.forall_mem_cons.mpr ⟨ze_aload_n (k := 0) (by decide +kernel) rfl, ?_⟩
  refine List.forall_mem_cons.mpr ⟨ze_getL (by decide +kernel) fl_X12_38 rfl (by decide), ?_⟩
  refine List.forall_mem_cons.mpr ⟨ze_iload (by decide +kernel), ?_⟩
  refine List.forall_mem_cons.mpr ⟨ze_iload (by decide +kernel), ?_⟩
  refine List.forall_mem_cons.mpr ⟨ze_callSF (idx := 310) (by decide +kernel) ml_X12_310 ms_X12_canCome, ?_⟩
  refine List.forall_mem_cons.mpr ⟨ze_if_eq (off := 72) (by decide +kernel) (by decide), ?_⟩
  refine List.forall_mem_cons.mpr ⟨ze_aload_n (k := 0) (by decide +kernel) rfl, ?_⟩
  refine List.forall_mem_cons.mpr ⟨ze_aload_n (k := 0) (by decide +kernel) rfl, ?_⟩
  refine List.forall_mem_cons.mpr ⟨ze_getL (by decide +kernel) fl_X12_38 rfl (by decide), ?_⟩
  refine List.forall_mem_cons.mpr ⟨ze_aload_n (k := 0) (by decide +kernel) rfl, ?_⟩
  refine List.forall_mem_cons.mpr ⟨ze_getL (by decide +kernel) fl_X12_38 rfl (by decide), ?_⟩
  refine List.forall_mem_cons.mpr ⟨ze_iconst (n := 3) (by decide +kernel) (by decide), ?_⟩
  refine List.forall_mem_cons.mpr ⟨ze_iald (by decide +kernel), ?_⟩
  refine List.forall_mem_cons.mpr ⟨ze_iload (by decide +kernel), ?_⟩
  refine List.forall_mem_cons.mpr ⟨ze_iload (by decide +kernel), ?_⟩
  refine List.forall_mem_cons.mpr ⟨ze_callVF (idx := 281) (by decide +kernel) ml_X12_281 mv_X12_policyDeed rfl, ?_⟩
  refine List.forall_mem_cons.mpr ⟨ze_aload_n (k := 0) (by decide +kernel) rfl, ?_⟩
  refine List.forall_mem_cons.mpr ⟨ze_aload_n (k := 0) (by decide +kernel) rfl, ?_⟩
  refine List.forall_mem_cons.mpr ⟨ze_getL (by decide +kernel) fl_X12_38 rfl (by decide), ?_⟩
  refine List.forall_mem_cons.mpr ⟨ze_aload_n (k := 0) (by decide +kernel) rfl, ?_⟩
  refine List.forall_mem_cons.mpr ⟨ze_getL (by decide +kernel) fl_X12_60 rfl (by decide), ?_⟩
  refine List.forall_mem_cons.mpr ⟨ze_aload_n (k := 0) (by decide +kernel) rfl, ?_⟩
  refine List.forall_mem_cons.mpr ⟨ze_getL (by decide +kernel) fl_X12_38 rfl (by decide), ?_⟩
  refine List.forall_mem_cons.mpr ⟨ze_iconst (n := 3) (by decide +kernel) (by decide), ?_⟩
  refine List.forall_mem_cons.mpr ⟨ze_iald (by decide +kernel), ?_⟩
  refine List.forall_mem_cons.mpr ⟨ze_iconst (n := 0) (by decide +kernel) (by decide), ?_⟩
  refine List.forall_mem_cons.mpr ⟨ze_aload_n (k := 0) (by decide +kernel) rfl, ?_⟩
  refine List.forall_mem_cons.mpr ⟨ze_getL (by decide +kernel) fl_X12_38 rfl (by decide), ?_⟩
  refine List.forall_mem_cons.mpr ⟨ze_iconst (n := 2) (by decide +kernel) (by decide), ?_⟩
  refine List.forall_mem_cons.mpr ⟨ze_iald (by decide +kernel), ?_⟩
  refine List.forall_mem_cons.mpr ⟨ze_iload (by decide +kernel), ?_⟩
  refine List.forall_mem_cons.mpr ⟨ze_iload (by decide +kernel), ?_⟩
  refine List.forall_mem_cons.mpr ⟨ze_callVF (idx := 285) (by decide +kernel) ml_X12_285 mv_X12_bestDeed rfl, ?_⟩
  refine List.forall_mem_cons.mpr ⟨ze_icmp_ne (off := 6) (by decide +kernel) (by decide), ?_⟩
  refine List.forall_mem_cons.mpr ⟨ze_goto (off := 19) (by decide +kernel) (by decide), ?_⟩
  refine List.forall_mem_cons.mpr ⟨ze_iincF (n := 1) (by decide +kernel) (by decide) (by decide), ?_⟩
  refine List.forall_mem_cons.mpr ⟨ze_iload_n (k := 3) (by decide +kernel) rfl, ?_⟩
  refine List.forall_mem_cons.mpr ⟨ze_iconst (n := -1) (by decide +kernel) (by decide), ?_⟩
  refine List.forall_mem_cons.mpr ⟨ze_icmp_ne (off := 11) (by decide +kernel) (by decide), ?_⟩
  refine List.forall_mem_cons.mpr ⟨ze_iload (by decide +kernel), ?_⟩
  refine List.forall_mem_cons.mpr ⟨ze_iload (by decide +kernel), ?_⟩
  refine List.forall_mem_cons.mpr ⟨ze_callSF (idx := 210) (by decide +kernel) ml_X12_210 ms_X12_node, ?_⟩
  refine List.forall_mem_cons.mpr ⟨ze_istoreF_n (k := 3) (by decide +kernel) rfl (by decide), ?_⟩
  refine List.forall_mem_cons.mpr ⟨ze_iincF (n := 1) (by decide +kernel) (by decide) (by decide), ?_⟩
  refine List.forall_mem_cons.mpr ⟨ze_goto (off := -93) (by decide +kernel) (by decide), ?_⟩
  refine List.forall_mem_cons.mpr ⟨ze_iincF (n := 1) (by decide +kernel) (by decide) (by decide), ?_⟩
  refine List.forall_mem_cons.mpr ⟨ze_goto (off := -113) (by decide +kernel) (by decide), ?_⟩
  refine List.forall_mem_cons.mpr ⟨ze_iload_n (k := 1) (by decide +kernel) rfl, ?_⟩
  refine List.forall_mem_cons.mpr ⟨ze_if_ne (off := 7) (by decide +kernel) (by decide), ?_⟩
  refine List.forall_mem_cons.mpr ⟨ze_iload_n (k := 2) (by decide +kernel) rfl, ?_⟩
  refine List.forall_mem_cons.mpr ⟨ze_goto (off := 28) (by decide +kernel) (by decide), ?_⟩
  refine List.forall_mem_cons.mpr ⟨ze_iload_n (k := 3) (by decide +kernel) rfl, ?_⟩
  refine List.forall_mem_cons.mpr ⟨ze_iconst (n := -1) (by decide +kernel) (by decide), ?_⟩
  refine List.forall_mem_cons.mpr ⟨ze_icmp_ne (off := 7) (by decide +kernel) (by decide), ?_⟩
  refine List.forall_mem_cons.mpr ⟨ze_iconst (n := -1) (by decide +kernel) (by decide), ?_⟩
  refine List.forall_mem_cons.mpr ⟨ze_goto (off := 19) (by decide +kernel) (by decide), ?_⟩
  refine List.forall_mem_cons.mpr ⟨ze_iload_n (k := 1) (by decide +kernel) rfl, ?_⟩
  refine List.forall_mem_cons.mpr ⟨ze_iconst (n := 1) (by decide +kernel) (by decide), ?_⟩
  refine List.forall_mem_cons.mpr ⟨ze_icmp_ne (off := 10) (by decide +kernel) (by decide), ?_⟩
  refine List.forall_mem_cons.mpr ⟨ze_iload_n (k := 3) (by decide +kernel) rfl, ?_⟩
  refine List.forall_mem_cons.mpr ⟨ze_bipush (n := 12) (by decide +kernel) (by decide), ?_⟩
  refine List.forall_mem_cons.mpr ⟨ze_idiv (by decide +kernel), ?_⟩
  refine List.forall_mem_cons.mpr ⟨ze_goto (off := 7) (by decide +kernel) (by decide), ?_⟩
  refine List.forall_mem_cons.mpr ⟨ze_iload_n (k := 3) (by decide +kernel) rfl, ?_⟩
  refine List.forall_mem_cons.mpr ⟨ze_bipush (n := 12) (by decide +kernel) (by decide), ?_⟩
  refine List.forall_mem_cons.mpr ⟨ze_irem (by decide +kernel), ?_⟩
  refine List.forall_mem_cons.mpr ⟨ze_iret (by decide +kernel) rfl, ?_⟩
  exact fun _ h => absurd h List.not_mem_nil
theorem vX12_strays {l : Launch} {G : GT} {d : Nat} {av : List Value} {Q : Po} {σ : Mm} (cs : List (Nat × List Nat)) (k : Nat) (h : vc l G d mX12_strays TX12_strays Q cs k TX12_strays (lv_args 0 av) [] σ) (hlen : (lg_sl av).length ≤ mX12_strays.2.2.1 := by exact Nat.le_of_ble_eq_true rfl) : MW l G d mX12_strays av σ Q := mw_vc TX12_strays_ok mc_X12_strays rfl hlen cs k rfl h
theorem wX12_strays {l : Launch} {G : GT} {d : Nat} {Q : Po} {pc : Nat} {lv : Lv} {st : List Value} {σ : Mm} (cs : List (Nat × List Nat)) (k : Nat) (h : vc l G d mX12_strays TX12_strays Q cs k (drp TX12_strays pc) lv st σ) (hpc : hdp (drp TX12_strays pc) = pc := by rfl) : Wp l G d mX12_strays pc lv st σ Q := wp_vc TX12_strays_ok cs k hpc h
def TX12_mended : List In := [(0, 1, zt_aload 0), (1, 2, zt_ic 0), (2, 5, zt_putI 20 0), (5, 6, zt_aload 0), (6, 7, zt_iload 1), (7, 8, zt_iload 2), (8, 11, zt_callVF mX12_isNode 2 20), (11, 14, zt_if_ne 16), (14, 15, zt_ic (-1)), (15, 16, zt_iret), (16, 17, zt_aload 0), (17, 18, zt_aload 0), (18, 21, zt_getL 20 20), (21, 24, zt_callVF mX12_laysPolicy 1 20), (24, 25, zt_aload 0), (25, 26, zt_aload 0), (26, 29, zt_getL 20 20), (29, 30, zt_aload 0), (30, 33, zt_getL 20 32), (33, 34, zt_aload 0), (34, 37, zt_getL 20 20), (37, 38, zt_ic 3), (38, 39, zt_iald), (39, 40, zt_ic 0), (40, 41, zt_aload 0), (41, 44, zt_getL 20 20), (44, 45, zt_ic 2), (45, 46, zt_iald), (46, 47, zt_iload 1), (47, 48, zt_iload 2), (48, 51, zt_callVF mX12_bestDeed 7 20), (51, 52, zt_iret)]
theorem TX12_mended_ok : ∀ i ∈ TX12_mended, Ent mX12_mended i := by
  refine List.forall_mem_cons.mpr ⟨ze_aload_n (k := 0) (by decide +kernel) rfl, ?_⟩
  refine List.forall_mem_cons.mpr ⟨ze_iconst (n := 0) (by decide +kernel) (by decide), ?_⟩
  refine List.forall_mem_cons.mpr ⟨ze_putI (by decide +kernel) fl_X12_82 ⟨_, _, _, rfl, rfl, by decide +kernel⟩ rfl, ?_⟩
  refine List.forall_mem_cons.mpr ⟨ze_aload_n (k := 0) (by decide +kernel) rfl, ?_⟩
  refine List.forall_mem_cons.mpr ⟨ze_iload_n (k := 1) (by decide +kernel) rfl, ?_⟩
  refine List.forall_mem_cons.mpr ⟨ze_iload_n (k := 2) (by decide +kernel) rfl, ?_⟩
  refine List.forall_mem_cons.mpr ⟨ze_callVF (idx := 206) (by decide +kernel) ml_X12_206 mv_X12_isNode rfl, ?_⟩
  refine List.forall_mem_cons.mpr ⟨ze_if_ne (off := 5) (by decide +kernel) (by decide), ?_⟩
  refine List.forall_mem_cons.mpr ⟨ze_iconst (n := -1) (by decide +kernel) (by decide), ?_⟩
  refine List.forall_mem_cons.mpr ⟨ze_iret (by decide +kernel) rfl, ?_⟩
  refine List.forall_mem_cons.mpr ⟨ze_aload_n (k := 0) (by decide +kernel) rfl, ?_⟩
  refine List.forall_mem_cons.mpr ⟨ze_aload_n (k := 0) (by decide +kernel) rfl, ?_⟩
  refine List.forall_mem_cons.mpr ⟨ze_getL (by decide +kernel) fl_X12_38 rfl (by decide), ?_⟩
  refine List.forall_mem_cons.mpr ⟨ze_callVF (idx := 441) (by decide +kernel) ml_X12_441 mv_X12_laysPolicy rfl, ?_⟩
  refine List.forall_mem_cons.mpr ⟨ze_aload_n (k := 0) (by decide +kernel) rfl, ?_⟩
  refine List.forall_mem_cons.mpr ⟨ze_aload_n (k := 0) (by decide +kernel) rfl, ?_⟩
  refine List.forall_mem_cons.mpr ⟨ze_getL (by decide +kernel) fl_X12_38 rfl (by decide), ?_⟩
  refine List.forall_mem_cons.mpr ⟨ze_aload_n (k := 0) (by decide +kernel) rfl, ?_⟩
  refine List.forall_mem_cons.mpr ⟨ze_getL (by decide +kernel) fl_X12_64 rfl (by decide), ?_⟩
  refine List.forall_mem_cons.mpr ⟨ze_aload_n (k := 0) (by decide +kernel) rfl, ?_⟩
  refine List.forall_mem_cons.mpr ⟨ze_getL (by decide +kernel) fl_X12_38 rfl (by decide), ?_⟩
  refine List.forall_mem_cons.mpr ⟨ze_iconst (n := 3) (by decide +kernel) (by decide), ?_⟩
  refine List.forall_mem_cons.mpr ⟨ze_iald (by decide +kernel), ?_⟩
  refine List.forall_mem_cons.mpr ⟨ze_iconst (n := 0) (by decide +kernel) (by decide), ?_⟩
  refine List.forall_mem_cons.mpr ⟨ze_aload_n (k := 0) (by decide +kernel) rfl, ?_⟩
  refine List.forall_mem_cons.mpr ⟨ze_getL (by decide +kernel) fl_X12_38 rfl (by decide), ?_⟩
  refine List.forall_mem_cons.mpr ⟨ze_iconst (n := 2) (by decide +kernel) (by decide), ?_⟩
  refine List.forall_mem_cons.mpr ⟨ze_iald (by decide +kernel), ?_⟩
  refine List.forall_mem_cons.mpr ⟨ze_iload_n (k := 1) (by decide +kernel) rfl, ?_⟩
  refine List.forall_mem_cons.mpr ⟨ze_iload_n (k := 2) (by decide +kernel) rfl, ?_⟩
  refine List.forall_mem_cons.mpr ⟨ze_callVF (idx := 285) (by decide +kernel) ml_X12_285 mv_X12_bestDeed rfl, ?_⟩
  refine List.forall_mem_cons.mpr ⟨ze_iret (by decide +kernel) rfl, ?_⟩
  exact fun _ h => absurd h List.not_mem_nil
theorem vX12_mended {l : Launch} {G : GT} {d : Nat} {av : List Value} {Q : Po} {σ : Mm} (cs : List (Nat × List Nat)) (k : Nat) (h : vc l G d mX12_mended TX12_mended Q cs k TX12_mended (lv_args 0 av) [] σ) (hlen : (lg_sl av).length ≤ mX12_mended.2.2.1 := by exact Nat.le_of_ble_eq_true rfl) : MW l G d mX12_mended av σ Q := mw_vc TX12_mended_ok mc_X12_mended rfl hlen cs k rfl h
theorem wX12_mended {l : Launch} {G : GT} {d : Nat} {Q : Po} {pc : Nat} {lv : Lv} {st : List Value} {σ : Mm} (cs : List (Nat × List Nat)) (k : Nat) (h : vc l G d mX12_mended TX12_mended Q cs k (drp TX12_mended pc) lv st σ) (hpc : hdp (drp TX12_mended pc) = pc := by rfl) : Wp l G d mX12_mended pc lv st σ Q := wp_vc TX12_mended_ok cs k hpc h
def TX12_mendsAll : List In := [(0, 1, zt_aload 0), (1, 2, zt_aload 0), (2, 5, zt_getL 20 21), (5, 8, zt_callVF mX12_laysPolicy 1 20), (8, 9, zt_ic 0), (9, 10, zt_istoreF 1), (10, 11, zt_aload 0), (11, 14, zt_getL 20 21), (14, 15, zt_ic 0), (15, 16, zt_iald), (16, 17, zt_istoreF 2), (17, 18, zt_iload 2), (18, 19, zt_aload 0), (19, 22, zt_getL 20 6), (22, 23, zt_ic 1), (23, 24, zt_iald), (24, 27, zt_icmp_ge 154), (27, 28, zt_ic 0), (28, 29, zt_istoreF 3), (29, 30, zt_iload 3), (30, 31, zt_iload 2), (31, 34, zt_icmp_gt 148), (34, 35, zt_aload 0), (35, 38, zt_getL 20 44), (38, 39, zt_iload 2), (39, 40, zt_iload 3), (40, 43, zt_callSF mX12_node 2), (43, 44, zt_aload 0), (44, 47, zt_getL 20 21), (47, 50, zt_ic 169), (50, 51, zt_iload 2), (51, 52, zt_iload 3), (52, 55, zt_callSF mX12_node 2), (55, 56, zt_iadd), (56, 57, zt_iald), (57, 58, zt_iastoreF), (58, 59, zt_aload 0), (59, 62, zt_getL 20 21), (62, 63, zt_iload 2), (63, 64, zt_iload 3), (64, 67, zt_callSF mX12_canCome 3), (67, 70, zt_if_eq 107), (70, 71, zt_aload 0), (71, 74, zt_getL 20 44), (74, 75, zt_iload 2), (75, 76, zt_iload 3), (76, 79, zt_callSF mX12_node 2), (79, 80, zt_aload 0), (80, 81, zt_aload 0), (81, 84, zt_getL 20 21), (84, 85, zt_aload 0), (85, 88, zt_getL 20 32), (88, 89, zt_aload 0), (89, 92, zt_getL 20 21), (92, 93, zt_ic 3), (93, 94, zt_iald), (94, 95, zt_ic 0), (95, 96, zt_aload 0), (96, 99, zt_getL 20 21), (99, 100, zt_ic 2), (100, 101, zt_iald), (101, 102, zt_iload 2), (102, 103, zt_iload 3), (103, 106, zt_callVF mX12_bestDeed 7 20), (106, 107, zt_iastoreF), (107, 108, zt_iload 1), (108, 109, zt_aload 0), (109, 112, zt_getL 20 44), (112, 113, zt_iload 2), (113, 114, zt_iload 3), (114, 117, zt_callSF mX12_node 2), (117, 118, zt_iald), (118, 119, zt_aload 0), (119, 122, zt_getL 20 21), (122, 125, zt_ic 169), (125, 126, zt_iload 2), (126, 127, zt_iload 3), (127, 130, zt_callSF mX12_node 2), (130, 131, zt_iadd), (131, 132, zt_iald), (132, 135, zt_icmp_ne 139), (135, 136, zt_ic 0), (136, 139, zt_goto 140), (139, 140, zt_ic 1), (140, 141, zt_iadd), (141, 142, zt_istoreF 1), (142, 145, zt_iincF 3 1), (145, 148, zt_goto 29), (148, 151, zt_iincF 2 1), (151, 154, zt_goto 17), (154, 155, zt_aload 0), (155, 158, zt_getL 20 21), (158, 159, zt_ic 0), (159, 160, zt_iald), (160, 161, zt_istoreF 2), (161, 162, zt_iload 2), (162, 163, zt_aload 0), (163, 166, zt_getL 20 6), (166, 167, zt_ic 1), (167, 168, zt_iald), (168, 171, zt_icmp_ge 214), (171, 172, zt_ic 0), (172, 173, zt_istoreF 3), (173, 174, zt_iload 3), (174, 175, zt_iload 2), (175, 178, zt_icmp_gt 208), (178, 179, zt_aload 0), (179, 182, zt_getL 20 21), (182, 185, zt_ic 169), (185, 186, zt_iload 2), (186, 187, zt_iload 3), (187, 190, zt_callSF mX12_node 2), (190, 191, zt_iadd), (191, 192, zt_aload 0), (192, 195, zt_getL 20 44), (195, 196, zt_iload 2), (196, 197, zt_iload 3), (197, 200, zt_callSF mX12_node 2), (200, 201, zt_iald), (201, 202, zt_iastoreF), (202, 205, zt_iincF 3 1), (205, 208, zt_goto 173), (208, 211, zt_iincF 2 1), (211, 214, zt_goto 161), (214, 215, zt_iload 1), (215, 216, zt_iret)]
theorem TX12_mendsAll_ok : ∀ i ∈ TX12_mendsAll, Ent mX12_mendsAll i := by
  refine List.forall_mem_cons.mpr ⟨ze_aload_n (k := 0) (by decide +kernel) rfl, ?_⟩
  refine List.forall_mem_cons.mpr ⟨ze_aload_n (k := 0) (by decide +kernel) rfl, ?_⟩
  refine List.forall_mem_cons.mpr ⟨ze_getL (by decide +kernel) fl_X12_41 rfl (by decide), ?_⟩
  refine List.forall_mem_cons.mpr ⟨ze_callVF (idx := 441) (by decide +kernel) ml_X12_441 mv_X12_laysPolicy rfl, ?_⟩
  refine List.forall_mem_cons.mpr ⟨ze_iconst (n := 0) (by decide +kernel) (by decide), ?_⟩
  refine List.forall_mem_cons.mpr ⟨ze_istoreF_n (k := 1) (by decide +kernel) rfl (by decide), ?_⟩
  refine List.forall_mem_cons.mpr ⟨ze_aload_n (k := 0) (by decide +kernel) rfl, ?_⟩
  refine List.forall_mem_cons.mpr ⟨ze_getL (by decide +kernel) fl_X12_41 rfl (by decide), ?_⟩
  refine List.forall_mem_cons.mpr ⟨ze_iconst (n := 0) (by decide +kernel) (by decide), ?_⟩
  refine List.forall_mem_cons.mpr ⟨ze_iald (by decide +kernel), ?_⟩
  refine List.forall_mem_cons.mpr ⟨ze_istoreF_n (k := 2) (by decide +kernel) rfl (by decide), ?_⟩
  refine List.forall_mem_cons.mpr ⟨ze_iload_n (k := 2) (by decide +kernel) rfl, ?_⟩
  refine List.forall_mem_cons.mpr ⟨ze_aload_n (k := 0) (by decide +kernel) rfl, ?_⟩
  refine List.forall_mem_cons.mpr ⟨ze_getL (by decide +kernel) fl_X12_17 rfl (by decide), ?_⟩
  refine List.forall_mem_cons.mpr ⟨ze_iconst (n := 1) (by decide +kernel) (by decide), ?_⟩
  refine List.forall_mem_cons.mpr ⟨ze_iald (by decide +kernel), ?_⟩
  refine List.forall_mem_cons.mpr ⟨ze_icmp_ge (off := 130) (by decide +kernel) (by decide), ?_⟩
  refine List.forall_mem_cons.mpr ⟨ze_iconst (n := 0) (by decide +kernel) (by decide), ?_⟩
  refine List.forall_mem_cons.mpr ⟨ze_istoreF_n (k := 3) (by decide +kernel) rfl (by decide), ?_⟩
  refine List.forall_mem_cons.mpr ⟨ze_iload_n (k := 3) (by decide +kernel) rfl, ?_⟩
  refine List.forall_mem_cons.mpr ⟨ze_iload_n (k := 2) (by decide +kernel) rfl, ?_⟩
  refine List.forall_mem_cons.mpr ⟨ze_icmp_gt (off := 117) (by decide +kernel) (by decide), ?_⟩
  refine List.forall_mem_cons.mpr ⟨ze_aload_n (k := 0) (by decide +kernel) rfl, ?_⟩
  refine List.forall_mem_cons.mpr ⟨ze_getL (by decide +kernel) fl_X12_79 rfl (by decide), ?_⟩
  refine List.forall_mem_cons.mpr ⟨ze_iload_n (k := 2) (by decide +kernel) rfl, ?_⟩
  refine List.forall_mem_cons.mpr ⟨ze_iload_n (k := 3) (by decide +kernel) rfl, ?_⟩
  refine List.forall_mem_cons.mpr ⟨ze_callSF (idx := 210) (by decide +kernel) ml_X12_210 ms_X12_node, ?_⟩
  refine List.forall_mem_cons.mpr ⟨ze_aload_n (k := 0) (by decide +kernel) rfl, ?_⟩
  refine List.forall_mem_cons.mpr ⟨ze_getL (by decide +kernel) fl_X12_41 rfl (by decide), ?_⟩
  refine List.forall_mem_cons.mpr ⟨ze_sipush (n := 169) (by decide +kernel) (by decide), ?_⟩
  refine List.forall_mem_cons.mpr ⟨ze_iload_n (k := 2) (by decide +kernel) rfl, ?_⟩
  refine List.forall_mem_cons.mpr ⟨ze_iload_n (k := 3) (by decide +kernel) rfl, ?_⟩
  refine List.forall_mem_cons.mpr ⟨ze_callSF (idx := 210) (by decide +kernel) ml_X12_210 ms_X12_node, ?_⟩
  refine List.forall_mem_cons.mpr ⟨ze_iadd (by decide +kernel), ?_⟩
  refine List.forall_mem_cons.mpr ⟨ze_iald (by decide +kernel), ?_⟩
  refine List.forall_mem_cons.mpr ⟨ze_iastoreF (by decide +kernel), ?_⟩
  refine List.forall_mem_cons.mpr ⟨ze_aload_n (k := 0) (by decide +kernel) rfl, ?_⟩
  refine List.forall_mem_cons.mpr ⟨ze_getL (by decide +kernel) fl_X12_41 rfl (by decide), ?_⟩
  refine List.forall_mem_cons.mpr ⟨ze_iload_n (k := 2) (by decide +kernel) rfl, ?_⟩
  refine List.forall_mem_cons.mpr ⟨ze_iload_n (k := 3) (by decide +kernel) rfl, ?_⟩
  refine List.forall_mem_cons.mpr ⟨ze_callSF (idx := 310) (by decide +kernel) ml_X12_310 ms_X12_canCome, ?_⟩
  refine List.forall_mem_cons.mpr ⟨ze_if_eq (off := 40) (by decide +kernel) (by decide), ?_⟩
  refine List.forall_mem_cons.mpr ⟨ze_aload_n (k := 0) (by decide +kernel) rfl, ?_⟩
  refine List.forall_mem_cons.mpr ⟨ze_getL (by decide +kernel) fl_X12_79 rfl (by decide), ?_⟩
  refine List.forall_mem_cons.mpr ⟨ze_iload_n (k := 2) (by decide +kernel) rfl, ?_⟩
  refine List.forall_mem_cons.mpr ⟨ze_iload_n (k := 3) (by decide +kernel) rfl, ?_⟩
  refine List.forall_mem_cons.mpr ⟨ze_callSF (idx := 210) (by decide +kernel) ml_X12_210 ms_X12_node, ?_⟩
  refine List.forall_mem_cons.mpr ⟨ze_aload_n (k := 0) (by decide +kernel) rfl, ?_⟩
  refine List.forall_mem_cons.mpr ⟨ze_aload_n (k := 0) (by decide +kernel) rfl, ?_⟩
  refine List.forall_mem_cons.mpr ⟨ze_getL (by decide +kernel) fl_X12_41 rfl (by decide), ?_⟩
  refine List.forall_mem_cons.mpr ⟨ze_aload_n (k := 0) (by decide +kernel) rfl, ?_⟩
  refine List.forall_mem_cons.mpr ⟨ze_getL (by decide +kernel) fl_X12_64 rfl (by decide), ?_⟩
  refine List.forall_mem_cons.mpr ⟨ze_aload_n (k := 0) (by decide +kernel) rfl, ?_⟩
  refine List.forall_mem_cons.mpr ⟨ze_getL (by decide +kernel) fl_X12_41 rfl (by decide), ?_⟩
  refine List.forall_mem_cons.mpr ⟨ze_iconst (n := 3) (by decide +kernel) (by decide), ?_⟩
  refine List.forall_mem_cons.mpr ⟨ze_iald (by decide +kernel), ?_⟩
  refine List.forall_mem_cons.mpr ⟨ze_iconst (n := 0) (by decide +kernel) (by decide), ?_⟩
  refine List.forall_mem_cons.mpr ⟨ze_aload_n (k := 0) (by decide +kernel) rfl, ?_⟩
  refine List.forall_mem_cons.mpr ⟨ze_getL (by decide +kernel) fl_X12_41 rfl (by decide), ?_⟩
  refine List.forall_mem_cons.mpr ⟨ze_iconst (n := 2) (by decide +kernel) (by decide), ?_⟩
  refine List.forall_mem_cons.mpr ⟨ze_iald (by decide +kernel), ?_⟩
  refine List.forall_mem_cons.mpr ⟨ze_iload_n (k := 2) (by decide +kernel) rfl, ?_⟩
  refine List.forall_mem_cons.mpr ⟨ze_iload_n (k := 3) (by decide +kernel) rfl, ?_⟩
  refine List.forall_mem_cons.mpr ⟨ze_callVF (idx := 285) (by decide +kernel) ml_X12_285 mv_X12_bestDeed rfl, ?_⟩
  refine List.forall_mem_cons.mpr ⟨ze_iastoreF (by decide +kernel), ?_⟩
  refine List.forall_mem_cons.mpr ⟨ze_iload_n (k := 1) (by decide +kernel) rfl, ?_⟩
  refine List.forall_mem_cons.mpr ⟨ze_aload_n (k := 0) (by decide +kernel) rfl, ?_⟩
  refine List.forall_mem_cons.mpr ⟨ze_getL (by decide +kernel) fl_X12_79 rfl (by decide), ?_⟩
  refine List.forall_mem_cons.mpr ⟨ze_iload_n (k := 2) (by decide +kernel) rfl, ?_⟩
  refine List.forall_mem_cons.mpr ⟨ze_iload_n (k := 3) (by decide +kernel) rfl, ?_⟩
  refine List.forall_mem_cons.mpr ⟨ze_callSF (idx := 210) (by decide +kernel) ml_X12_210 ms_X12_node, ?_⟩
  refine List.forall_mem_cons.mpr ⟨ze_iald (by decide +kernel), ?_⟩
  refine List.forall_mem_cons.mpr ⟨ze_aload_n (k := 0) (by decide +kernel) rfl, ?_⟩
  refine List.forall_mem_cons.mpr ⟨ze_getL (by decide +kernel) fl_X12_41 rfl (by decide), ?_⟩
  refine List.forall_mem_cons.mpr ⟨ze_sipush (n := 169) (by decide +kernel) (by decide), ?_⟩
  refine List.forall_mem_cons.mpr ⟨ze_iload_n (k := 2) (by decide +kernel) rfl, ?_⟩
  refine List.forall_mem_cons.mpr ⟨ze_iload_n (k := 3) (by decide +kernel) rfl, ?_⟩
  refine List.forall_mem_cons.mpr ⟨ze_callSF (idx := 210) (by decide +kernel) ml_X12_210 ms_X12_node, ?_⟩
  refine List.forall_mem_cons.mpr ⟨ze_iadd (by decide +kernel), ?_⟩
  refine List.forall_mem_cons.mpr ⟨ze_iald (by decide +kernel), ?_⟩
  refine List.forall_mem_cons.mpr ⟨ze_icmp_ne (off := 7) (by decide +kernel) (by decide), ?_⟩
  refine List.forall_mem_cons.mpr ⟨ze_iconst (n := 0) (by decide +kernel) (by decide), ?_⟩
  refine List.forall_mem_cons.mpr ⟨ze_goto (off := 4) (by decide +kernel) (by decide), ?_⟩
  refine List.forall_mem_cons.mpr ⟨ze_iconst (n := 1) (by decide +kernel) (by decide), ?_⟩
  refine List.forall_mem_cons.mpr ⟨ze_iadd (by decide +kernel), ?_⟩
  refine List.forall_mem_cons.mpr ⟨ze_istoreF_n (k := 1) (by decide +kernel) rfl (by decide), ?_⟩
  refine List.forall_mem_cons.mpr ⟨ze_iincF (n := 1) (by decide +kernel) (by decide) (by decide), ?_⟩
  refine List.forall_mem_cons.mpr ⟨ze_goto (off := -116) (by decide +kernel) (by decide), ?_⟩
  refine List.forall_mem_cons.mpr ⟨ze_iincF (n := 1) (by decide +kernel) (by decide) (by decide), ?_⟩
  refine List.forall_mem_cons.mpr ⟨ze_goto (off := -134) (by decide +kernel) (by decide), ?_⟩
  refine List.forall_mem_cons.mpr ⟨ze_aload_n (k := 0) (by decide +kernel) rfl, ?_⟩
  refine List.forall_mem_cons.mpr ⟨ze_getL (by decide +kernel) fl_X12_41 rfl (by decide), ?_⟩
  refine List.forall_mem_cons.mpr ⟨ze_iconst (n := 0) (by decide +kernel) (by decide), ?_⟩
  refine List.forall_mem_cons.mpr ⟨ze_iald (by decide +kernel), ?_⟩
  refine List.forall_mem_cons.mpr ⟨ze_istoreF_n (k := 2) (by decide +kernel) rfl (by decide), ?_⟩
  refine List.forall_mem_cons.mpr ⟨ze_iload_n (k := 2) (by decide +kernel) rfl, ?_⟩
  refine List.forall_mem_cons.mpr ⟨ze_aload_n (k := 0) (by decide +kernel) rfl, ?_⟩
  refine List.forall_mem_cons.mpr ⟨ze_getL (by decide +kernel) fl_X12_17 rfl (by decide), ?_⟩
  refine List.forall_mem_cons.mpr ⟨ze_iconst (n := 1) (by decide +kernel) (by decide), ?_⟩
  refine List.forall_mem_cons.mpr ⟨ze_iald (by decide +kernel), ?_⟩
  refine List.forall_mem_cons.mpr ⟨ze_icmp_ge (off := 46) (by decide +kernel) (by decide), ?_⟩
  refine List.forall_mem_cons.mpr ⟨ze_iconst (n := 0) (by decide +kernel) (by decide), ?_⟩
  refine List.forall_mem_cons.mpr ⟨ze_istoreF_n (k := 3) (by decide +kernel) rfl (by decide), ?_⟩
  refine List.forall_mem_cons.mpr ⟨ze_iload_n (k := 3) (by decide +kernel) rfl, ?_⟩
  refine List.forall_mem_cons.mpr ⟨ze_iload_n (k := 2) (by decide +kernel) rfl, ?_⟩
  refine List.forall_mem_cons.mpr ⟨ze_icmp_gt (off := 33) (by decide +kernel) (by decide), ?_⟩
  refine List.forall_mem_cons.mpr ⟨ze_aload_n (k := 0) (by decide +kernel) rfl, ?_⟩
  refine List.forall_mem_cons.mpr ⟨ze_getL (by decide +kernel) fl_X12_41 rfl (by decide), ?_⟩
  refine List.forall_mem_cons.mpr ⟨ze_sipush (n := 169) (by decide +kernel) (by decide), ?_⟩
  refine List.forall_mem_cons.mpr ⟨ze_iload_n (k := 2) (by decide +kernel) rfl, ?_⟩
  refine List.forall_mem_cons.mpr ⟨ze_iload_n (k := 3) (by decide +kernel) rfl, ?_⟩
  refine List.forall_mem_cons.mpr ⟨ze_callSF (idx := 210) (by decide +kernel) ml_X12_210 ms_X12_node, ?_⟩
  refine List.forall_mem_cons.mpr ⟨ze_iadd (by decide +kernel), ?_⟩
  refine List.forall_mem_cons.mpr ⟨ze_aload_n (k := 0) (by decide +kernel) rfl, ?_⟩
  refine List.forall_mem_cons.mpr ⟨ze_getL (by decide +kernel) fl_X12_79 rfl (by decide), ?_⟩
  refine List.forall_mem_cons.mpr ⟨ze_iload_n (k := 2) (by decide +kernel) rfl, ?_⟩
  refine List.forall_mem_cons.mpr ⟨ze_iload_n (k := 3) (by decide +kernel) rfl, ?_⟩
  refine List.forall_mem_cons.mpr ⟨ze_callSF (idx := 210) (by decide +kernel) ml_X12_210 ms_X12_node, ?_⟩
  refine List.forall_mem_cons.mpr ⟨ze_iald (by decide +kernel), ?_⟩
  refine List.forall_mem_cons.mpr ⟨ze_iastoreF (by decide +kernel), ?_⟩
  refine List.forall_mem_cons.mpr ⟨ze_iincF (n := 1) (by decide +kernel) (by decide) (by decide), ?_⟩
  refine List.forall_mem_cons.mpr ⟨ze_goto (off := -32) (by decide +kernel) (by decide), ?_⟩
  refine List.forall_mem_cons.mpr ⟨ze_iincF (n := 1) (by decide +kernel) (by decide) (by decide), ?_⟩
  refine List.forall_mem_cons.mpr ⟨ze_goto (off := -50) (by decide +kernel) (by decide), ?_⟩
  refine List.forall_mem_cons.mpr ⟨ze_iload_n (k := 1) (by decide +kernel) rfl, ?_⟩
  refine List.forall_mem_cons.mpr ⟨ze_iret (by decide +kernel) rfl, ?_⟩
  exact fun _ h => absurd h List.not_mem_nil
theorem vX12_mendsAll {l : Launch} {G : GT} {d : Nat} {av : List Value} {Q : Po} {σ : Mm} (cs : List (Nat × List Nat)) (k : Nat) (h : vc l G d mX12_mendsAll TX12_mendsAll Q cs k TX12_mendsAll (lv_args 0 av) [] σ) (hlen : (lg_sl av).length ≤ mX12_mendsAll.2.2.1 := by exact Nat.le_of_ble_eq_true rfl) : MW l G d mX12_mendsAll av σ Q := mw_vc TX12_mendsAll_ok mc_X12_mendsAll rfl hlen cs k rfl h
theorem wX12_mendsAll {l : Launch} {G : GT} {d : Nat} {Q : Po} {pc : Nat} {lv : Lv} {st : List Value} {σ : Mm} (cs : List (Nat × List Nat)) (k : Nat) (h : vc l G d mX12_mendsAll TX12_mendsAll Q cs k (drp TX12_mendsAll pc) lv st σ) (hpc : hdp (drp TX12_mendsAll pc) = pc := by rfl) : Wp l G d mX12_mendsAll pc lv st σ Q := wp_vc TX12_mendsAll_ok cs k hpc h
def TX12_rounds : List In := [(0, 1, zt_aload 0), (1, 2, zt_ic 0), (2, 5, zt_putI 20 0), (5, 6, zt_aload 0), (6, 7, zt_aload 0), (7, 10, zt_getL 20 20), (10, 13, zt_callVF mX12_isOver 1 20), (13, 16, zt_if_eq 18), (16, 17, zt_ic (-1)), (17, 18, zt_iret), (18, 19, zt_aload 0), (19, 22, zt_getL 20 20), (22, 23, zt_ic 0), (23, 24, zt_aload 0), (24, 27, zt_getL 20 21), (27, 28, zt_ic 0), (28, 31, zt_callSF mX12_copyRow 4), (31, 32, zt_ic 0), (32, 33, zt_istoreF 1), (33, 34, zt_iload 1), (34, 36, zt_ic 20), (36, 39, zt_icmp_gt 54), (39, 40, zt_aload 0), (40, 43, zt_callVF mX12_mendsAll 0 20), (43, 46, zt_if_ne 48), (46, 47, zt_iload 1), (47, 48, zt_iret), (48, 51, zt_iincF 1 1), (51, 54, zt_goto 33), (54, 55, zt_ic (-1)), (55, 56, zt_iret)]
theorem TX12_rounds_ok : ∀ i ∈ TX12_rounds, Ent mX12_rounds i := by
  refine List.forall_mem_cons.mpr ⟨ze_aload_n (k := 0) (by decide +kernel) rfl, ?_⟩
  refine List.forall_mem_cons.mpr ⟨ze_iconst (n := 0) (by decide +kernel) (by decide), ?_⟩
  refine List.forall_mem_cons.mpr ⟨ze_putI (by decide +kernel) fl_X12_82 ⟨_, _, _, rfl, rfl, by decide +kernel⟩ rfl, ?_⟩
  refine List.forall_mem_cons.mpr ⟨ze_aload_n (k := 0) (by decide +kernel) rfl, ?_⟩
  refine List.forall_mem_cons.mpr ⟨ze_aload_n (k := 0) (by decide +kernel) rfl, ?_⟩
  refine List.forall_mem_cons.mpr ⟨ze_getL (by decide +kernel) fl_X12_38 rfl (by decide), ?_⟩
  refine List.forall_mem_cons.mpr ⟨ze_callVF (idx := 304) (by decide +kernel) ml_X12_304 mv_X12_isOver rfl, ?_⟩
  refine List.forall_mem_cons.mpr ⟨ze_if_eq (off := 5) (by decide +kernel) (by decide), ?_⟩
  refine List.forall_mem_cons.mpr ⟨ze_iconst (n := -1) (by decide +kernel) (by decide), ?_⟩
  refine List.forall_mem_cons.mpr ⟨ze_iret (by decide +kernel) rfl, ?_⟩
  refine List.forall_mem_cons.mpr ⟨ze_aload_n (k := 0) (by decide +kernel) rfl, ?_⟩
  refine List.forall_mem_cons.mpr ⟨ze_getL (by decide +kernel) fl_X12_38 rfl (by decide), ?_⟩
  refine List.forall_mem_cons.mpr ⟨ze_iconst (n := 0) (by decide +kernel) (by decide), ?_⟩
  refine List.forall_mem_cons.mpr ⟨ze_aload_n (k := 0) (by decide +kernel) rfl, ?_⟩
  refine List.forall_mem_cons.mpr ⟨ze_getL (by decide +kernel) fl_X12_41 rfl (by decide), ?_⟩
  refine List.forall_mem_cons.mpr ⟨ze_iconst (n := 0) (by decide +kernel) (by decide), ?_⟩
  refine List.forall_mem_cons.mpr ⟨ze_callSF (idx := 353) (by decide +kernel) ml_X12_353 ms_X12_copyRow, ?_⟩
  refine List.forall_mem_cons.mpr ⟨ze_iconst (n := 0) (by decide +kernel) (by decide), ?_⟩
  refine List.forall_mem_cons.mpr ⟨ze_istoreF_n (k := 1) (by decide +kernel) rfl (by decide), ?_⟩
  refine List.forall_mem_cons.mpr ⟨ze_iload_n (k := 1) (by decide +kernel) rfl, ?_⟩
  refine List.forall_mem_cons.mpr ⟨ze_bipush (n := 20) (by decide +kernel) (by decide), ?_⟩
  refine List.forall_mem_cons.mpr ⟨ze_icmp_gt (off := 18) (by decide +kernel) (by decide), ?_⟩
  refine List.forall_mem_cons.mpr ⟨ze_aload_n (k := 0) (by decide +kernel) rfl, ?_⟩
  refine List.forall_mem_cons.mpr ⟨ze_callVF (idx := 451) (by decide +kernel) ml_X12_451 mv_X12_mendsAll rfl, ?_⟩
  refine List.forall_mem_cons.mpr ⟨ze_if_ne (off := 5) (by decide +kernel) (by decide), ?_⟩
  refine List.forall_mem_cons.mpr ⟨ze_iload_n (k := 1) (by decide +kernel) rfl, ?_⟩
  refine List.forall_mem_cons.mpr ⟨ze_iret (by decide +kernel) rfl, ?_⟩
  refine List.forall_mem_cons.mpr ⟨ze_iincF (n := 1) (by decide +kernel) (by decide) (by decide), ?_⟩
  refine List.forall_mem_cons.mpr ⟨ze_goto (off := -18) (by decide +kernel) (by decide), ?_⟩
  refine List.forall_mem_cons.mpr ⟨ze_iconst (n := -1) (by decide +kernel) (by decide), ?_⟩
  refine List.forall_mem_cons.mpr ⟨ze_iret (by decide +kernel) rfl, ?_⟩
  exact fun _ h => absurd h List.not_mem_nil
theorem vX12_rounds {l : Launch} {G : GT} {d : Nat} {av : List Value} {Q : Po} {σ : Mm} (cs : List (Nat × List Nat)) (k : Nat) (h : vc l G d mX12_rounds TX12_rounds Q cs k TX12_rounds (lv_args 0 av) [] σ) (hlen : (lg_sl av).length ≤ mX12_rounds.2.2.1 := by exact Nat.le_of_ble_eq_true rfl) : MW l G d mX12_rounds av σ Q := mw_vc TX12_rounds_ok mc_X12_rounds rfl hlen cs k rfl h
theorem wX12_rounds {l : Launch} {G : GT} {d : Nat} {Q : Po} {pc : Nat} {lv : Lv} {st : List Value} {σ : Mm} (cs : List (Nat × List Nat)) (k : Nat) (h : vc l G d mX12_rounds TX12_rounds Q cs k (drp TX12_rounds pc) lv st σ) (hpc : hdp (drp TX12_rounds pc) = pc := by rfl) : Wp l G d mX12_rounds pc lv st σ Q := wp_vc TX12_rounds_ok cs k hpc h
def TX12_isScript : List In := [(0, 1, zt_iload 1), (1, 2, zt_i2l), (2, 3, zt_lc 0), (3, 4, zt_aload 0), (4, 7, zt_getI 20 16), (7, 8, zt_ic 1), (8, 9, zt_isub), (9, 10, zt_i2l), (10, 13, zt_callSF mX12_isIn 3), (13, 14, zt_zret)]
theorem TX12_isScript_ok : ∀ i ∈ TX12_isScript, Ent mX12_isScript i := by
  refine List.forall_mem_cons.mpr ⟨ze_iload_n (k := 1) (by decide +kernel) rfl, ?_⟩
  refine List.forall_mem_cons.mpr ⟨ze_i2l (by decide +kernel), ?_⟩
  refine List.forall_mem_cons.mpr ⟨ze_lconst (n := 0) (by decide +kernel) (by decide), ?_⟩
  refine List.forall_mem_cons.mpr ⟨ze_aload_n (k := 0) (by decide +kernel) rfl, ?_⟩
  refine List.forall_mem_cons.mpr ⟨ze_getI (by decide +kernel) fl_X12_220 rfl, ?_⟩
  refine List.forall_mem_cons.mpr ⟨ze_iconst (n := 1) (by decide +kernel) (by decide), ?_⟩
  refine List.forall_mem_cons.mpr ⟨ze_isub (by decide +kernel), ?_⟩
  refine List.forall_mem_cons.mpr ⟨ze_i2l (by decide +kernel), ?_⟩
  refine List.forall_mem_cons.mpr ⟨ze_callSF (idx := 148) (by decide +kernel) ml_X12_148 ms_X12_isIn, ?_⟩
  refine List.forall_mem_cons.mpr ⟨ze_zret (by decide +kernel) rfl, ?_⟩
  exact fun _ h => absurd h List.not_mem_nil
theorem vX12_isScript {l : Launch} {G : GT} {d : Nat} {av : List Value} {Q : Po} {σ : Mm} (cs : List (Nat × List Nat)) (k : Nat) (h : vc l G d mX12_isScript TX12_isScript Q cs k TX12_isScript (lv_args 0 av) [] σ) (hlen : (lg_sl av).length ≤ mX12_isScript.2.2.1 := by exact Nat.le_of_ble_eq_true rfl) : MW l G d mX12_isScript av σ Q := mw_vc TX12_isScript_ok mc_X12_isScript rfl hlen cs k rfl h
theorem wX12_isScript {l : Launch} {G : GT} {d : Nat} {Q : Po} {pc : Nat} {lv : Lv} {st : List Value} {σ : Mm} (cs : List (Nat × List Nat)) (k : Nat) (h : vc l G d mX12_isScript TX12_isScript Q cs k (drp TX12_isScript pc) lv st σ) (hpc : hdp (drp TX12_isScript pc) = pc := by rfl) : Wp l G d mX12_isScript pc lv st σ Q := wp_vc TX12_isScript_ok cs k hpc h
def TX12_step : List In := [(0, 1, zt_aload 0), (1, 2, zt_ic 0), (2, 5, zt_putI 20 0), (5, 6, zt_aload 0), (6, 7, zt_iload 1), (7, 10, zt_callVF mX12_isScript 1 20), (10, 13, zt_if_eq 43), (13, 14, zt_iload 2), (14, 15, zt_i2l), (15, 16, zt_lc 0), (16, 17, zt_aload 0), (17, 20, zt_getL 20 12), (20, 21, zt_iload 1), (21, 22, zt_iald), (22, 23, zt_ic 1), (23, 24, zt_isub), (24, 25, zt_i2l), (25, 28, zt_callSF mX12_isIn 3), (28, 31, zt_if_eq 43), (31, 32, zt_iload 3), (32, 33, zt_i2l), (33, 34, zt_lc 0), (34, 37, zt_lc (3 : Int64)), (37, 40, zt_callSF mX12_isIn 3), (40, 43, zt_if_ne 47), (43, 46, zt_ic (-1000000 : Int32)), (46, 47, zt_iret), (47, 48, zt_aload 0), (48, 51, zt_getL 20 11), (51, 52, zt_ic 4), (52, 54, zt_ic 16), (54, 55, zt_iload 1), (55, 56, zt_imul), (56, 57, zt_iload 2), (57, 58, zt_iadd), (58, 59, zt_imul), (59, 60, zt_iload 3), (60, 61, zt_iadd), (61, 62, zt_iald), (62, 63, zt_iret)]
theorem TX12_step_ok : ∀ i ∈ TX12_step, Ent mX12_step i := by
  refine List.forall_mem_cons.mpr ⟨ze_aload_n (k := 0) (by decide +kernel) rfl, ?_⟩
  refine List.forall_mem_cons.mpr ⟨ze_iconst (n := 0) (by decide +kernel) (by decide), ?_⟩
  refine List.forall_mem_cons.mpr ⟨ze_putI (by decide +kernel) fl_X12_82 ⟨_, _, _, rfl, rfl, by decide +kernel⟩ rfl, ?_⟩
  refine List.forall_mem_cons.mpr ⟨ze_aload_n (k := 0) (by decide +kernel) rfl, ?_⟩
  refine List.forall_mem_cons.mpr ⟨ze_iload_n (k := 1) (by decide +kernel) rfl, ?_⟩
  refine List.forall_mem_cons.mpr ⟨ze_callVF (idx := 454) (by decide +kernel) ml_X12_454 mv_X12_isScript rfl, ?_⟩
  refine List.forall_mem_cons.mpr ⟨ze_if_eq (off := 33) (by decide +kernel) (by decide), ?_⟩
  refine List.forall_mem_cons.mpr ⟨ze_iload_n (k := 2) (by decide +kernel) rfl, ?_⟩
  refine List.forall_mem_cons.mpr ⟨ze_i2l (by decide +kernel), ?_⟩
  refine List.forall_mem_cons.mpr ⟨ze_lconst (n := 0) (by decide +kernel) (by decide), ?_⟩
  refine List.forall_mem_cons.mpr ⟨ze_aload_n (k := 0) (by decide +kernel) rfl, ?_⟩
  refine List.forall_mem_cons.mpr ⟨ze_getL (by decide +kernel) fl_X12_35 rfl (by decide), ?_⟩
  refine List.forall_mem_cons.mpr ⟨ze_iload_n (k := 1) (by decide +kernel) rfl, ?_⟩
  refine List.forall_mem_cons.mpr ⟨ze_iald (by decide +kernel), ?_⟩
  refine List.forall_mem_cons.mpr ⟨ze_iconst (n := 1) (by decide +kernel) (by decide), ?_⟩
  refine List.forall_mem_cons.mpr ⟨ze_isub (by decide +kernel), ?_⟩
  refine List.forall_mem_cons.mpr ⟨ze_i2l (by decide +kernel), ?_⟩
  refine List.forall_mem_cons.mpr ⟨ze_callSF (idx := 148) (by decide +kernel) ml_X12_148 ms_X12_isIn, ?_⟩
  refine List.forall_mem_cons.mpr ⟨ze_if_eq (off := 15) (by decide +kernel) (by decide), ?_⟩
  refine List.forall_mem_cons.mpr ⟨ze_iload_n (k := 3) (by decide +kernel) rfl, ?_⟩
  refine List.forall_mem_cons.mpr ⟨ze_i2l (by decide +kernel), ?_⟩
  refine List.forall_mem_cons.mpr ⟨ze_lconst (n := 0) (by decide +kernel) (by decide), ?_⟩
  refine List.forall_mem_cons.mpr ⟨ze_ldc2 (i := 388) (by decide +kernel) kc_X12_388, ?_⟩
  refine List.forall_mem_cons.mpr ⟨ze_callSF (idx := 148) (by decide +kernel) ml_X12_148 ms_X12_isIn, ?_⟩
  refine List.forall_mem_cons.mpr ⟨ze_if_ne (off := 7) (by decide +kernel) (by decide), ?_⟩
  refine List.forall_mem_cons.mpr ⟨ze_ldcw (i := 390) (by decide +kernel) kc_X12_390, ?_⟩
  refine List.forall_mem_cons.mpr ⟨ze_iret (by decide +kernel) rfl, ?_⟩
  refine List.forall_mem_cons.mpr ⟨ze_aload_n (k := 0) (by decide +kernel) rfl, ?_⟩
  refine List.forall_mem_cons.mpr ⟨ze_getL (by decide +kernel) fl_X12_32 rfl (by decide), ?_⟩
  refine List.forall_mem_cons.mpr ⟨ze_iconst (n := 4) (by decide +kernel) (by decide), ?_⟩
  refine List.forall_mem_cons.mpr ⟨ze_bipush (n := 16) (by decide +kernel) (by decide), ?_⟩
  refine List.forall_mem_cons.mpr ⟨ze_iload_n (k := 1) (by decide +kernel) rfl, ?_⟩
  refine List.forall_mem_cons.mpr ⟨ze_imul (by decide +kernel), ?_⟩
  refine List.forall_mem_cons.mpr ⟨ze_iload_n (k := 2) (by decide +kernel) rfl, ?_⟩
  refine List.forall_mem_cons.mpr ⟨ze_iadd (by decide +kernel), ?_⟩
  refine List.forall_mem_cons.mpr ⟨ze_imul (by decide +kernel), ?_⟩
  refine List.forall_mem_cons.mpr ⟨ze_iload_n (k := 3) (by decide +kernel) rfl, ?_⟩
  refine List.forall_mem_cons.mpr ⟨ze_iadd (by decide +kernel), ?_⟩
  refine List.forall_mem_cons.mpr ⟨ze_iald (by decide +kernel), ?_⟩
  refine List.forall_mem_cons.mpr ⟨ze_iret (by decide +kernel) rfl, ?_⟩
  exact fun _ h => absurd h List.not_mem_nil
theorem vX12_step {l : Launch} {G : GT} {d : Nat} {av : List Value} {Q : Po} {σ : Mm} (cs : List (Nat × List Nat)) (k : Nat) (h : vc l G d mX12_step TX12_step Q cs k TX12_step (lv_args 0 av) [] σ) (hlen : (lg_sl av).length ≤ mX12_step.2.2.1 := by exact Nat.le_of_ble_eq_true rfl) : MW l G d mX12_step av σ Q := mw_vc TX12_step_ok mc_X12_step rfl hlen cs k rfl h
theorem wX12_step {l : Launch} {G : GT} {d : Nat} {Q : Po} {pc : Nat} {lv : Lv} {st : List Value} {σ : Mm} (cs : List (Nat × List Nat)) (k : Nat) (h : vc l G d mX12_step TX12_step Q cs k (drp TX12_step pc) lv st σ) (hpc : hdp (drp TX12_step pc) = pc := by rfl) : Wp l G d mX12_step pc lv st σ Q := wp_vc TX12_step_ok cs k hpc h
def TX12_run : List In := [(0, 1, zt_aload 0), (1, 2, zt_ic 0), (2, 5, zt_putI 20 0), (5, 6, zt_aload 0), (6, 7, zt_iload 1), (7, 10, zt_callVF mX12_isScript 1 20), (10, 13, zt_if_eq 30), (13, 14, zt_aload 0), (14, 17, zt_getI 20 17), (17, 20, zt_if_eq 30), (20, 21, zt_iload 2), (21, 22, zt_i2l), (22, 23, zt_lc 0), (23, 24, zt_lc 1), (24, 27, zt_callSF mX12_isIn 3), (27, 30, zt_if_ne 34), (30, 33, zt_ic (-1000000 : Int32)), (33, 34, zt_iret), (34, 35, zt_aload 0), (35, 38, zt_getL 20 20), (38, 39, zt_ic 0), (39, 40, zt_aload 0), (40, 43, zt_getL 20 21), (43, 44, zt_ic 0), (44, 47, zt_callSF mX12_copyRow 4), (47, 48, zt_ic 0), (48, 49, zt_istoreF 3), (49, 50, zt_ic 1), (50, 52, zt_istoreF 4), (52, 54, zt_iload 4), (54, 57, zt_if_eq 141), (57, 58, zt_iload 3), (58, 59, zt_aload 0), (59, 62, zt_getL 20 12), (62, 63, zt_iload 1), (63, 64, zt_iald), (64, 67, zt_icmp_ge 141), (67, 68, zt_ic 4), (68, 70, zt_ic 16), (70, 71, zt_iload 1), (71, 72, zt_imul), (72, 73, zt_iload 3), (73, 74, zt_iadd), (74, 75, zt_imul), (75, 77, zt_istoreF 5), (77, 78, zt_aload 0), (78, 79, zt_aload 0), (79, 82, zt_getL 20 21), (82, 83, zt_aload 0), (83, 86, zt_getL 20 11), (86, 88, zt_iload 5), (88, 89, zt_iald), (89, 90, zt_aload 0), (90, 93, zt_getL 20 11), (93, 95, zt_iload 5), (95, 96, zt_ic 1), (96, 97, zt_iadd), (97, 98, zt_iald), (98, 99, zt_aload 0), (99, 102, zt_getL 20 11), (102, 104, zt_iload 5), (104, 105, zt_ic 2), (105, 106, zt_iadd), (106, 107, zt_iald), (107, 108, zt_aload 0), (108, 111, zt_getL 20 11), (111, 113, zt_iload 5), (113, 114, zt_ic 3), (114, 115, zt_iadd), (115, 116, zt_iald), (116, 119, zt_callVF mX12_does 5 20), (119, 120, zt_ic (-1)), (120, 123, zt_icmp_ne 127), (123, 124, zt_ic 1), (124, 127, zt_goto 128), (127, 128, zt_ic 0), (128, 130, zt_istoreF 4), (130, 132, zt_iload 4), (132, 135, zt_if_eq 138), (135, 138, zt_iincF 3 1), (138, 141, zt_goto 52), (141, 142, zt_iload 2), (142, 143, zt_ic 1), (143, 146, zt_icmp_ne 156), (146, 147, zt_aload 0), (147, 150, zt_getL 20 21), (150, 152, zt_ic 7), (152, 153, zt_iald), (153, 156, zt_goto 171), (156, 157, zt_iload 3), (157, 158, zt_aload 0), (158, 161, zt_getL 20 12), (161, 162, zt_iload 1), (162, 163, zt_iald), (163, 166, zt_icmp_ne 170), (166, 167, zt_ic (-1)), (167, 170, zt_goto 171), (170, 171, zt_iload 3), (171, 172, zt_iret)]
theorem TX12_run_ok : ∀ i ∈ TX12_run, Ent mX12_run i := by
  refine List.forall_mem_cons.mpr ⟨ze_aload_n (k := 0) (by decide +kernel) rfl, ?_⟩
  refine List.forall_mem_cons.mpr ⟨ze_iconst (n := 0) (by decide +kernel) (by decide), ?_⟩
  refine List.forall_mem_cons.mpr ⟨ze_putI (by decide +kernel) fl_X12_82 ⟨_, _, _, rfl, rfl, by decide +kernel⟩ rfl, ?_⟩
  refine List.forall_mem_cons.mpr ⟨ze_aload_n (k := 0) (by decide +kernel) rfl, ?_⟩
  refine List.forall_mem_cons.mpr ⟨ze_iload_n (k := 1) (by decide +kernel) rfl, ?_⟩
  refine List.forall_mem_cons.mpr ⟨ze_callVF (idx := 454) (by decide +kernel) ml_X12_454 mv_X12_isScript rfl, ?_⟩
  refine List.forall_mem_cons.mpr ⟨ze_if_eq (off := 20) (by decide +kernel) (by decide), ?_⟩
  refine List.forall_mem_cons.mpr ⟨ze_aload_n (k := 0) (by decide +kernel) rfl, ?_⟩
  refine List.forall_mem_cons.mpr ⟨ze_getI (by decide +kernel) fl_X12_202 rfl, ?_⟩
  refine List.forall_mem_cons.mpr ⟨ze_if_eq (off := 13) (by decide +kernel) (by decide), ?_⟩
  refine List.forall_mem_cons.mpr ⟨ze_iload_n (k := 2) (by decide +kernel) rfl, ?_⟩
  refine List.forall_mem_cons.mpr ⟨ze_i2l (by decide +kernel), ?_⟩
  refine List.forall_mem_cons.mpr ⟨ze_lconst (n := 0) (by decide +kernel) (by decide), ?_⟩
  refine List.forall_mem_cons.mpr ⟨ze_lconst (n := 1) (by decide +kernel) (by decide), ?_⟩
  refine List.forall_mem_cons.mpr ⟨ze_callSF (idx := 148) (by decide +kernel) ml_X12_148 ms_X12_isIn, ?_⟩
  refine List.forall_mem_cons.mpr ⟨ze_if_ne (off := 7) (by decide +kernel) (by decide), ?_⟩
  refine List.forall_mem_cons.mpr ⟨ze_ldcw (i := 390) (by decide +kernel) kc_X12_390, ?_⟩
  refine List.forall_mem_cons.mpr ⟨ze_iret (by decide +kernel) rfl, ?_⟩
  refine List.forall_mem_cons.mpr ⟨ze_aload_n (k := 0) (by decide +kernel) rfl, ?_⟩
  refine List.forall_mem_cons.mpr ⟨ze_getL (by decide +kernel) fl_X12_38 rfl (by decide), ?_⟩
  refine List.forall_mem_cons.mpr ⟨ze_iconst (n := 0) (by decide +kernel) (by decide), ?_⟩
  refine List.forall_mem_cons.mpr ⟨ze_aload_n (k := 0) (by decide +kernel) rfl, ?_⟩
  refine List.forall_mem_cons.mpr ⟨ze_getL (by decide +kernel) fl_X12_41 rfl (by decide), ?_⟩
  refine List.forall_mem_cons.mpr ⟨ze_iconst (n := 0) (by decide +kernel) (by decide), ?_⟩
  refine List.forall_mem_cons.mpr ⟨ze_callSF (idx := 353) (by decide +kernel) ml_X12_353 ms_X12_copyRow, ?_⟩
  refine List.forall_mem_cons.mpr ⟨ze_iconst (n := 0) (by decide +kernel) (by decide), ?_⟩
  refine List.forall_mem_cons.mpr ⟨ze_istoreF_n (k := 3) (by decide +kernel) rfl (by decide), ?_⟩
  refine List.forall_mem_cons.mpr ⟨ze_iconst (n := 1) (by decide +kernel) (by decide), ?_⟩
  refine List.forall_mem_cons.mpr ⟨ze_istoreF (by decide +kernel) (by decide), ?_⟩
  refine List.forall_mem_cons.mpr ⟨ze_iload (by decide +kernel), ?_⟩
  refine List.forall_mem_cons.mpr ⟨ze_if_eq (off := 87) (by decide +kernel) (by decide), ?_⟩
  refine List.forall_mem_cons.mpr ⟨ze_iload_n (k := 3) (by decide +kernel) rfl, ?_⟩
  refine List.forall_mem_cons.mpr ⟨ze_aload_n (k := 0) (by decide +kernel) rfl, ?_⟩
  refine List.forall_mem_cons.mpr ⟨ze_getL (by decide +kernel) fl_X12_35 rfl (by decide), ?_⟩
  refine List.forall_mem_cons.mpr ⟨ze_iload_n (k := 1) (by decide +kernel) rfl, ?_⟩
  refine List.forall_mem_cons.mpr ⟨ze_iald (by decide +kernel), ?_⟩
  refine List.forall_mem_cons.mpr ⟨ze_icmp_ge (off := 77) (by decide +kernel) (by decide), ?_⟩
  refine List.forall_mem_cons.mpr ⟨ze_iconst (n := 4) (by decide +kernel) (by decide), ?_⟩
  refine List.forall_mem_cons.mpr ⟨ze_bipush (n := 16) (by decide +kernel) (by decide), ?_⟩
  refine List.forall_mem_cons.mpr ⟨ze_iload_n (k := 1) (by decide +kernel) rfl, ?_⟩
  refine List.forall_mem_cons.mpr ⟨ze_imul (by decide +kernel), ?_⟩
  refine List.forall_mem_cons.mpr ⟨ze_iload_n (k := 3) (by decide +kernel) rfl, ?_⟩
  refine List.forall_mem_cons.mpr ⟨ze_iadd (by decide +kernel), ?_⟩
  refine List.forall_mem_cons.mpr ⟨ze_imul (by decide +kernel), ?_⟩
  refine List.forall_mem_cons.mpr ⟨ze_istoreF (by decide +kernel) (by decide), ?_⟩
  refine List.forall_mem_cons.mpr ⟨ze_aload_n (k := 0) (by decide +kernel) rfl, ?_⟩
  refine List.forall_mem_cons.mpr ⟨ze_aload_n (k := 0) (by decide +kernel) rfl, ?_⟩
  refine List.forall_mem_cons.mpr ⟨ze_getL (by decide +kernel) fl_X12_41 rfl (by decide), ?_⟩
  refine List.forall_mem_cons.mpr ⟨ze_aload_n (k := 0) (by decide +kernel) rfl, ?_⟩
  refine List.forall_mem_cons.mpr ⟨ze_getL (by decide +kernel) fl_X12_32 rfl (by decide), ?_⟩
  refine List.forall_mem_cons.mpr ⟨ze_iload (by decide +kernel), ?_⟩
  refine List.forall_mem_cons.mpr ⟨ze_iald (by decide +kernel), ?_⟩
  refine List.forall_mem_cons.mpr ⟨ze_aload_n (k := 0) (by decide +kernel) rfl, ?_⟩
  refine List.forall_mem_cons.mpr ⟨ze_getL (by decide +kernel) fl_X12_32 rfl (by decide), ?_⟩
  refine List.forall_mem_cons.mpr ⟨ze_iload (by decide +kernel), ?_⟩
  refine List.forall_mem_cons.mpr ⟨ze_iconst (n := 1) (by decide +kernel) (by decide), ?_⟩
  refine List.forall_mem_cons.mpr ⟨ze_iadd (by decide +kernel), ?_⟩
  refine List.forall_mem_cons.mpr ⟨ze_iald (by decide +kernel), ?_⟩
  refine List.forall_mem_cons.mpr ⟨ze_aload_n (k := 0) (by decide +kernel) rfl, ?_⟩
  refine List.forall_mem_cons.mpr ⟨ze_getL (by decide +kernel) fl_X12_32 rfl (by decide), ?_⟩
  refine List.forall_mem_cons.mpr ⟨ze_iload (by decide +kernel), ?_⟩
  refine List.forall_mem_cons.mpr ⟨ze_iconst (n := 2) (by decide +kernel) (by decide), ?_⟩
  refine List.forall_mem_cons.mpr ⟨ze_iadd (by decide +kernel), ?_⟩
  refine List.forall_mem_cons.mpr ⟨ze_iald (by decide +kernel), ?_⟩
  refine List.forall_mem_cons.mpr ⟨ze_aload_n (k := 0) (by decide +kernel) rfl, ?_⟩
  refine List.forall_mem_cons.mpr ⟨ze_getL (by decide +kernel) fl_X12_32 rfl (by decide), ?_⟩
  refine List.forall_mem_cons.mpr ⟨ze_iload (by decide +kernel), ?_⟩
  refine List.forall_mem_cons.mpr ⟨ze_iconst (n := 3) (by decide +kernel) (by decide), ?_⟩
  refine List.forall_mem_cons.mpr ⟨ze_iadd (by decide +kernel), ?_⟩
  refine List.forall_mem_cons.mpr ⟨ze_iald (by decide +kernel), ?_⟩
  refine List.forall_mem_cons.mpr ⟨ze_callVF (idx := 357) (by decide +kernel) ml_X12_357 mv_X12_does rfl, ?_⟩
  refine List.forall_mem_cons.mpr ⟨ze_iconst (n := -1) (by decide +kernel) (by decide), ?_⟩
  refine List.forall_mem_cons.mpr ⟨ze_icmp_ne (off := 7) (by decide +kernel) (by decide), ?_⟩
  refine List.forall_mem_cons.mpr ⟨ze_iconst (n := 1) (by decide +kernel) (by decide), ?_⟩
  refine List.forall_mem_cons.mpr ⟨ze_goto (off := 4) (by decide +kernel) (by decide), ?_⟩
  refine List.forall_mem_cons.mpr ⟨ze_iconst (n := 0) (by decide +kernel) (by decide), ?_⟩
  refine List.forall_mem_cons.mpr ⟨ze_istoreF (by decide +kernel) (by decide), ?_⟩
  refine List.forall_mem_cons.mpr ⟨ze_iload (by decide +kernel), ?_⟩
  refine List.forall_mem_cons.mpr ⟨ze_if_eq (off := 6) (by decide +kernel) (by decide), ?_⟩
  refine List.forall_mem_cons.mpr ⟨ze_iincF (n := 1) (by decide +kernel) (by decide) (by decide), ?_⟩
  refine List.forall_mem_cons.mpr ⟨ze_goto (off := -86) (by decide +kernel) (by decide), ?_⟩
  refine List.forall_mem_cons.mpr ⟨ze_iload_n (k := 2) (by decide +kernel) rfl, ?_⟩
  refine List.forall_mem_cons.mpr ⟨ze_iconst (n := 1) (by decide +kernel) (by decide), ?_⟩
  refine List.forall_mem_cons.mpr ⟨ze_icmp_ne (off := 13) (by decide +kernel) (by decide), ?_⟩
  refine List.forall_mem_cons.mpr ⟨ze_aload_n (k := 0) (by decide +kernel) rfl, ?_⟩
  refine List.forall_mem_cons.mpr ⟨ze_getL (by decide +kernel) fl_X12_41 rfl (by decide), ?_⟩
  refine List.forall_mem_cons.mpr ⟨ze_bipush (n := 7) (by decide +kernel) (by decide), ?_⟩
  refine List.forall_mem_cons.mpr ⟨ze_iald (by decide +kernel), ?_⟩
  refine List.forall_mem_cons.mpr ⟨ze_goto (off := 18) (by decide +kernel) (by decide), ?_⟩
  refine List.forall_mem_cons.mpr ⟨ze_iload_n (k := 3) (by decide +kernel) rfl, ?_⟩
  refine List.forall_mem_cons.mpr ⟨ze_aload_n (k := 0) (by decide +kernel) rfl, ?_⟩
  refine List.forall_mem_cons.mpr ⟨ze_getL (by decide +kernel) fl_X12_35 rfl (by decide), ?_⟩
  refine List.forall_mem_cons.mpr ⟨ze_iload_n (k := 1) (by decide +kernel) rfl, ?_⟩
  refine List.forall_mem_cons.mpr ⟨ze_iald (by decide +kernel), ?_⟩
  refine List.forall_mem_cons.mpr ⟨ze_icmp_ne (off := 7) (by decide +kernel) (by decide), ?_⟩
  refine List.forall_mem_cons.mpr ⟨ze_iconst (n := -1) (by decide +kernel) (by decide), ?_⟩
  refine List.forall_mem_cons.mpr ⟨ze_goto (off := 4) (by decide +kernel) (by decide), ?_⟩
  refine List.forall_mem_cons.mpr ⟨ze_iload_n (k := 3) (by decide +kernel) rfl, ?_⟩
  refine List.forall_mem_cons.mpr ⟨ze_iret (by decide +kernel) rfl, ?_⟩
  exact fun _ h => absurd h List.not_mem_nil
theorem vX12_run {l : Launch} {G : GT} {d : Nat} {av : List Value} {Q : Po} {σ : Mm} (cs : List (Nat × List Nat)) (k : Nat) (h : vc l G d mX12_run TX12_run Q cs k TX12_run (lv_args 0 av) [] σ) (hlen : (lg_sl av).length ≤ mX12_run.2.2.1 := by exact Nat.le_of_ble_eq_true rfl) : MW l G d mX12_run av σ Q := mw_vc TX12_run_ok mc_X12_run rfl hlen cs k rfl h
theorem wX12_run {l : Launch} {G : GT} {d : Nat} {Q : Po} {pc : Nat} {lv : Lv} {st : List Value} {σ : Mm} (cs : List (Nat × List Nat)) (k : Nat) (h : vc l G d mX12_run TX12_run Q cs k (drp TX12_run pc) lv st σ) (hpc : hdp (drp TX12_run pc) = pc := by rfl) : Wp l G d mX12_run pc lv st σ Q := wp_vc TX12_run_ok cs k hpc h
def TX12_perform : List In := [(0, 1, zt_aload 0), (1, 2, zt_ic 0), (2, 5, zt_putI 20 0), (5, 6, zt_aload 0), (6, 7, zt_iload 1), (7, 10, zt_callVF mX12_isScript 1 20), (10, 13, zt_if_eq 20), (13, 14, zt_aload 0), (14, 17, zt_getI 20 17), (17, 20, zt_if_ne 22), (20, 21, zt_ic (-1)), (21, 22, zt_iret), (22, 23, zt_ic 0), (23, 24, zt_istoreF 2), (24, 25, zt_ic 1), (25, 26, zt_istoreF 3), (26, 27, zt_iload 3), (27, 30, zt_if_eq 108), (30, 31, zt_iload 2), (31, 32, zt_aload 0), (32, 35, zt_getL 20 12), (35, 36, zt_iload 1), (36, 37, zt_iald), (37, 40, zt_icmp_ge 108), (40, 41, zt_ic 4), (41, 43, zt_ic 16), (43, 44, zt_iload 1), (44, 45, zt_imul), (45, 46, zt_iload 2), (46, 47, zt_iadd), (47, 48, zt_imul), (48, 50, zt_istoreF 4), (50, 51, zt_aload 0), (51, 52, zt_aload 0), (52, 55, zt_getL 20 11), (55, 57, zt_iload 4), (57, 58, zt_iald), (58, 59, zt_aload 0), (59, 62, zt_getL 20 11), (62, 64, zt_iload 4), (64, 65, zt_ic 1), (65, 66, zt_iadd), (66, 67, zt_iald), (67, 68, zt_aload 0), (68, 71, zt_getL 20 11), (71, 73, zt_iload 4), (73, 74, zt_ic 2), (74, 75, zt_iadd), (75, 76, zt_iald), (76, 77, zt_aload 0), (77, 80, zt_getL 20 11), (80, 82, zt_iload 4), (82, 83, zt_ic 3), (83, 84, zt_iadd), (84, 85, zt_iald), (85, 88, zt_callVF mX12_tries 4 20), (88, 89, zt_ic (-1)), (89, 92, zt_icmp_ne 96), (92, 93, zt_ic 1), (93, 96, zt_goto 97), (96, 97, zt_ic 0), (97, 98, zt_istoreF 3), (98, 99, zt_iload 3), (99, 102, zt_if_eq 105), (102, 105, zt_iincF 2 1), (105, 108, zt_goto 26), (108, 109, zt_iload 2), (109, 110, zt_iret)]
theorem TX12_perform_ok : ∀ i ∈ TX12_perform, Ent mX12_perform i := by
  refine List.forall_mem_cons.mpr ⟨ze_aload_n (k := 0) (by decide +kernel) rfl, ?_⟩
  refine List.forall_mem_cons.mpr ⟨ze_iconst (n := 0) (by decide +kernel) (by decide), ?_⟩
  refine List.forall_mem_cons.mpr ⟨ze_putI (by decide +kernel) fl_X12_82 ⟨_, _, _, rfl, rfl, by decide +kernel⟩ rfl, ?_⟩
  refine List.forall_mem_cons.mpr ⟨ze_aload_n (k := 0) (by decide +kernel) rfl, ?_⟩
  refine List.forall_mem_cons.mpr ⟨ze_iload_n (k := 1) (by decide +kernel) rfl, ?_⟩
  refine List.forall_mem_cons.mpr ⟨ze_callVF (idx := 454) (by decide +kernel) ml_X12_454 mv_X12_isScript rfl, ?_⟩
  refine List.forall_mem_cons.mpr ⟨ze_if_eq (off := 10) (by decide +kernel) (by decide), ?_⟩
  refine List.forall_mem_cons.mpr ⟨ze_aload_n (k := 0) (by decide +kernel) rfl, ?_⟩
  refine List.forall_mem_cons.mpr ⟨ze_getI (by decide +kernel) fl_X12_202 rfl, ?_⟩
  refine List.forall_mem_cons.mpr ⟨ze_if_ne (off := 5) (by decide +kernel) (by decide), ?_⟩
  refine List.forall_mem_cons.mpr ⟨ze_iconst (n := -1) (by decide +kernel) (by decide), ?_⟩
  refine List.forall_mem_cons.mpr ⟨ze_iret (by decide +kernel) rfl, ?_⟩
  refine List.forall_mem_cons.mpr ⟨ze_iconst (n := 0) (by decide +kernel) (by decide), ?_⟩
  refine List.forall_mem_cons.mpr ⟨ze_istoreF_n (k := 2) (by decide +kernel) rfl (by decide), ?_⟩
  refine List.forall_mem_cons.mpr ⟨ze_iconst (n := 1) (by decide +kernel) (by decide), ?_⟩
  refine List.forall_mem_cons.mpr ⟨ze_istoreF_n (k := 3) (by decide +kernel) rfl (by decide), ?_⟩
  refine List.forall_mem_cons.mpr ⟨ze_iload_n (k := 3) (by decide +kernel) rfl, ?_⟩
  refine List.forall_mem_cons.mpr ⟨ze_if_eq (off := 81) (by decide +kernel) (by decide), ?_⟩
  refine List.forall_mem_cons.mpr ⟨ze_iload_n (k := 2) (by decide +kernel) rfl, ?_⟩
  refine List.forall_mem_cons.mpr ⟨ze_aload_n (k := 0) (by decide +kernel) rfl, ?_⟩
  refine List.forall_mem_cons.mpr ⟨ze_getL (by decide +kernel) fl_X12_35 rfl (by decide), ?_⟩
  refine List.forall_mem_cons.mpr ⟨ze_iload_n (k := 1) (by decide +kernel) rfl, ?_⟩
  refine List.forall_mem_cons.mpr ⟨ze_iald (by decide +kernel), ?_⟩
  refine List.forall_mem_cons.mpr ⟨ze_icmp_ge (off := 71) (by decide +kernel) (by decide), ?_⟩
  refine List.forall_mem_cons.mpr ⟨ze_iconst (n := 4) (by decide +kernel) (by decide), ?_⟩
  refine List.forall_mem_cons.mpr ⟨ze_bipush (n := 16) (by decide +kernel) (by decide), ?_⟩
  refine List.forall_mem_cons.mpr ⟨ze_iload_n (k := 1) (by decide +kernel) rfl, ?_⟩
  refine List.forall_mem_cons.mpr ⟨ze_imul (by decide +kernel), ?_⟩
  refine List.forall_mem_cons.mpr ⟨ze_iload_n (k := 2) (by decide +kernel) rfl, ?_⟩
  refine List.forall_mem_cons.mpr ⟨ze_iadd (by decide +kernel), ?_⟩
  refine List.forall_mem_cons.mpr ⟨ze_imul (by decide +kernel), ?_⟩
  refine List.forall_mem_cons.mpr ⟨ze_istoreF (by decide +kernel) (by decide), ?_⟩
  refine List.forall_mem_cons.mpr ⟨ze_aload_n (k := 0) (by decide +kernel) rfl, ?_⟩
  refine List.forall_mem_cons.mpr ⟨ze_aload_n (k := 0) (by decide +kernel) rfl, ?_⟩
  refine List.forall_mem_cons.mpr ⟨ze_getL (by decide +kernel) fl_X12_32 rfl (by decide), ?_⟩
  refine List.forall_mem_cons.mpr ⟨ze_iload (by decide +kernel), ?_⟩
  refine List.forall_mem_cons.mpr ⟨ze_iald (by decide +kernel), ?_⟩
  refine List.forall_mem_cons.mpr ⟨ze_aload_n (k := 0) (by decide +kernel) rfl, ?_⟩
  refine List.forall_mem_cons.mpr ⟨ze_getL (by decide +kernel) fl_X12_32 rfl (by decide), ?_⟩
  refine List.forall_mem_cons.mpr ⟨ze_iload (by decide +kernel), ?_⟩
  refine List.forall_mem_cons.mpr ⟨ze_iconst (n := 1) (by decide +kernel) (by decide), ?_⟩
  refine List.forall_mem_cons.mpr ⟨ze_iadd (by decide +kernel), ?_⟩
  refine List.forall_mem_cons.mpr ⟨ze_iald (by decide +kernel), ?_⟩
  refine List.forall_mem_cons.mpr ⟨ze_aload_n (k := 0) (by decide +kernel) rfl, ?_⟩
  refine List.forall_mem_cons.mpr ⟨ze_getL (by decide +kernel) fl_X12_32 rfl (by decide), ?_⟩
  refine List.forall_mem_cons.mpr ⟨ze_iload (by decide +kernel), ?_⟩
  refine List.forall_mem_cons.mpr ⟨ze_iconst (n := 2) (by decide +kernel) (by decide), ?_⟩
  refine List.forall_mem_cons.mpr ⟨ze_iadd (by decide +kernel), ?_⟩
  refine List.forall_mem_cons.mpr ⟨ze_iald (by decide +kernel), ?_⟩
  refine List.forall_mem_cons.mpr ⟨ze_aload_n (k := 0) (by decide +kernel) rfl, ?_⟩
  refine List.forall_mem_cons.mpr ⟨ze_getL (by decide +kernel) fl_X12_32 rfl (by decide), ?_⟩
  refine List.forall_mem_cons.mpr ⟨ze_iload (by decide +kernel), ?_⟩
  refine List.forall_mem_cons.mpr ⟨ze_iconst (n := 3) (by decide +kernel) (by decide), ?_⟩
  refine List.forall_mem_cons.mpr ⟨ze_iadd (by decide +kernel), ?_⟩
  refine List.forall_mem_cons.mpr ⟨ze_iald (by decide +kernel), ?_⟩
  refine List.forall_mem_cons.mpr ⟨ze_callVF (idx := 366) (by decide +kernel) ml_X12_366 mv_X12_tries rfl, ?_⟩
  refine List.forall_mem_cons.mpr ⟨ze_iconst (n := -1) (by decide +kernel) (by decide), ?_⟩
  refine List.forall_mem_cons.mpr ⟨ze_icmp_ne (off := 7) (by decide +kernel) (by decide), ?_⟩
  refine List.forall_mem_cons.mpr ⟨ze_iconst (n := 1) (by decide +kernel) (by decide), ?_⟩
  refine List.forall_mem_cons.mpr ⟨ze_goto (off := 4) (by decide +kernel) (by decide), ?_⟩
  refine List.forall_mem_cons.mpr ⟨ze_iconst (n := 0) (by decide +kernel) (by decide), ?_⟩
  refine List.forall_mem_cons.mpr ⟨ze_istoreF_n (k := 3) (by decide +kernel) rfl (by decide), ?_⟩
  refine List.forall_mem_cons.mpr ⟨ze_iload_n (k := 3) (by decide +kernel) rfl, ?_⟩
  refine List.forall_mem_cons.mpr ⟨ze_if_eq (off := 6) (by decide +kernel) (by decide), ?_⟩
  refine List.forall_mem_cons.mpr ⟨ze_iincF (n := 1) (by decide +kernel) (by decide) (by decide), ?_⟩
  refine List.forall_mem_cons.mpr ⟨ze_goto (off := -79) (by decide +kernel) (by decide), ?_⟩
  refine List.forall_mem_cons.mpr ⟨ze_iload_n (k := 2) (by decide +kernel) rfl, ?_⟩
  refine List.forall_mem_cons.mpr ⟨ze_iret (by decide +kernel) rfl, ?_⟩
  exact fun _ h => absurd h List.not_mem_nil
theorem vX12_perform {l : Launch} {G : GT} {d : Nat} {av : List Value} {Q : Po} {σ : Mm} (cs : List (Nat × List Nat)) (k : Nat) (h : vc l G d mX12_perform TX12_perform Q cs k TX12_perform (lv_args 0 av) [] σ) (hlen : (lg_sl av).length ≤ mX12_perform.2.2.1 := by exact Nat.le_of_ble_eq_true rfl) : MW l G d mX12_perform av σ Q := mw_vc TX12_perform_ok mc_X12_perform rfl hlen cs k rfl h
theorem wX12_perform {l : Launch} {G : GT} {d : Nat} {Q : Po} {pc : Nat} {lv : Lv} {st : List Value} {σ : Mm} (cs : List (Nat × List Nat)) (k : Nat) (h : vc l G d mX12_perform TX12_perform Q cs k (drp TX12_perform pc) lv st σ) (hpc : hdp (drp TX12_perform pc) = pc := by rfl) : Wp l G d mX12_perform pc lv st σ Q := wp_vc TX12_perform_ok cs k hpc h
def TX12_highest : List In := [(0, 1, zt_aload 0), (1, 2, zt_ic 0), (2, 5, zt_putI 20 27), (5, 6, zt_ic 0), (6, 7, zt_istoreF 1), (7, 8, zt_ic 0), (8, 9, zt_istoreF 2), (9, 10, zt_iload 2), (10, 11, zt_aload 0), (11, 14, zt_getL 20 6), (14, 15, zt_ic 1), (15, 16, zt_iald), (16, 19, zt_icmp_ge 63), (19, 20, zt_ic 0), (20, 21, zt_istoreF 3), (21, 22, zt_iload 3), (22, 23, zt_iload 2), (23, 26, zt_icmp_gt 57), (26, 27, zt_aload 0), (27, 28, zt_aload 0), (28, 31, zt_getL 20 20), (31, 32, zt_iload 2), (32, 33, zt_iload 3), (33, 36, zt_callVF mX12_rateOf 3 20), (36, 37, zt_iload 1), (37, 40, zt_icmp_le 51), (40, 41, zt_aload 0), (41, 42, zt_aload 0), (42, 45, zt_getL 20 20), (45, 46, zt_iload 2), (46, 47, zt_iload 3), (47, 50, zt_callVF mX12_rateOf 3 20), (50, 51, zt_istoreF 1), (51, 54, zt_iincF 3 1), (54, 57, zt_goto 21), (57, 60, zt_iincF 2 1), (60, 63, zt_goto 9), (63, 64, zt_iload 1), (64, 65, zt_iret)]
theorem TX12_highest_ok : ∀ i ∈ TX12_highest, Ent mX12_highest i := by
  refine List.forall_mem_cons.mpr ⟨ze_aload_n (k := 0) (by decide +kernel) rfl, ?_⟩
  refine List.forall_mem_cons.mpr ⟨ze_iconst (n := 0) (by decide +kernel) (by decide), ?_⟩
  refine List.forall_mem_cons.mpr ⟨ze_putI (by decide +kernel) fl_X12_234 ⟨_, _, _, rfl, rfl, by decide +kernel⟩ rfl, ?_⟩
  refine List.forall_mem_cons.mpr ⟨ze_iconst (n := 0) (by decide +kernel) (by decide), ?_⟩
  refine List.forall_mem_cons.mpr ⟨ze_istoreF_n (k := 1) (by decide +kernel) rfl (by decide), ?_⟩
  refine List.forall_mem_cons.mpr ⟨ze_iconst (n := 0) (by decide +kernel) (by decide), ?_⟩
  refine List.forall_mem_cons.mpr ⟨ze_istoreF_n (k := 2) (by decide +kernel) rfl (by decide), ?_⟩
  refine List.forall_mem_cons.mpr ⟨ze_iload_n (k := 2) (by decide +kernel) rfl, ?_⟩
  refine List.forall_mem_cons.mpr ⟨ze_aload_n (k := 0) (by decide +kernel) rfl, ?_⟩
  refine List.forall_mem_cons.mpr ⟨ze_getL (by decide +kernel) fl_X12_17 rfl (by decide), ?_⟩
  refine List.forall_mem_cons.mpr ⟨ze_iconst (n := 1) (by decide +kernel) (by decide), ?_⟩
  refine List.forall_mem_cons.mpr ⟨ze_iald (by decide +kernel), ?_⟩
  refine List.forall_mem_cons.mpr ⟨ze_icmp_ge (off := 47) (by decide +kernel) (by decide), ?_⟩
  refine List.forall_mem_cons.mpr ⟨ze_iconst (n := 0) (by decide +kernel) (by decide), ?_⟩
  refine List.forall_mem_cons.mpr ⟨ze_istoreF_n (k := 3) (by decide +kernel) rfl (by decide), ?_⟩
  refine List.forall_mem_cons.mpr ⟨ze_iload_n (k := 3) (by decide +kernel) rfl, ?_⟩
  refine List.forall_mem_cons.mpr ⟨ze_iload_n (k := 2) (by decide +kernel) rfl, ?_⟩
  refine List.forall_mem_cons.mpr ⟨ze_icmp_gt (off := 34) (by decide +kernel) (by decide), ?_⟩
  refine List.forall_mem_cons.mpr ⟨ze_aload_n (k := 0) (by decide +kernel) rfl, ?_⟩
  refine List.forall_mem_cons.mpr ⟨ze_aload_n (k := 0) (by decide +kernel) rfl, ?_⟩
  refine List.forall_mem_cons.mpr ⟨ze_getL (by decide +kernel) fl_X12_38 rfl (by decide), ?_⟩
  refine List.forall_mem_cons.mpr ⟨ze_iload_n (k := 2) (by decide +kernel) rfl, ?_⟩
  refine List.forall_mem_cons.mpr ⟨ze_iload_n (k := 3) (by decide +kernel) rfl, ?_⟩
  refine List.forall_mem_cons.mpr ⟨ze_callVF (idx := 237) (by decide +kernel) ml_X12_237 mv_X12_rateOf rfl, ?_⟩
  refine List.forall_mem_cons.mpr ⟨ze_iload_n (k := 1) (by decide +kernel) rfl, ?_⟩
  refine List.forall_mem_cons.mpr ⟨ze_icmp_le (off := 14) (by decide +kernel) (by decide), ?_⟩
  refine List.forall_mem_cons.mpr ⟨ze_aload_n (k := 0) (by decide +kernel) rfl, ?_⟩
  refine List.forall_mem_cons.mpr ⟨ze_aload_n (k := 0) (by decide +kernel) rfl, ?_⟩
  refine List.forall_mem_cons.mpr ⟨ze_getL (by decide +kernel) fl_X12_38 rfl (by decide), ?_⟩
  refine List.forall_mem_cons.mpr ⟨ze_iload_n (k := 2) (by decide +kernel) rfl, ?_⟩
  refine List.forall_mem_cons.mpr ⟨ze_iload_n (k := 3) (by decide +kernel) rfl, ?_⟩
  refine List.forall_mem_cons.mpr ⟨ze_callVF (idx := 237) (by decide +kernel) ml_X12_237 mv_X12_rateOf rfl, ?_⟩
  refine List.forall_mem_cons.mpr ⟨ze_istoreF_n (k := 1) (by decide +kernel) rfl (by decide), ?_⟩
  refine List.forall_mem_cons.mpr ⟨ze_iincF (n := 1) (by decide +kernel) (by decide) (by decide), ?_⟩
  refine List.forall_mem_cons.mpr ⟨ze_goto (off := -33) (by decide +kernel) (by decide), ?_⟩
  refine List.forall_mem_cons.mpr ⟨ze_iincF (n := 1) (by decide +kernel) (by decide) (by decide), ?_⟩
  refine List.forall_mem_cons.mpr ⟨ze_goto (off := -51) (by decide +kernel) (by decide), ?_⟩
  refine List.forall_mem_cons.mpr ⟨ze_iload_n (k := 1) (by decide +kernel) rfl, ?_⟩
  refine List.forall_mem_cons.mpr ⟨ze_iret (by decide +kernel) rfl, ?_⟩
  exact fun _ h => absurd h List.not_mem_nil
theorem vX12_highest {l : Launch} {G : GT} {d : Nat} {av : List Value} {Q : Po} {σ : Mm} (cs : List (Nat × List Nat)) (k : Nat) (h : vc l G d mX12_highest TX12_highest Q cs k TX12_highest (lv_args 0 av) [] σ) (hlen : (lg_sl av).length ≤ mX12_highest.2.2.1 := by exact Nat.le_of_ble_eq_true rfl) : MW l G d mX12_highest av σ Q := mw_vc TX12_highest_ok mc_X12_highest rfl hlen cs k rfl h
theorem wX12_highest {l : Launch} {G : GT} {d : Nat} {Q : Po} {pc : Nat} {lv : Lv} {st : List Value} {σ : Mm} (cs : List (Nat × List Nat)) (k : Nat) (h : vc l G d mX12_highest TX12_highest Q cs k (drp TX12_highest pc) lv st σ) (hpc : hdp (drp TX12_highest pc) = pc := by rfl) : Wp l G d mX12_highest pc lv st σ Q := wp_vc TX12_highest_ok cs k hpc h
def TX12_leftNow : List In := [(0, 1, zt_aload 0), (1, 2, zt_aload 0), (2, 5, zt_getL 20 20), (5, 8, zt_callVF mX12_laysYears 1 20), (8, 9, zt_aload 0), (9, 12, zt_getL 20 20), (12, 14, zt_ic 6), (14, 15, zt_iald), (15, 16, zt_ic 1), (16, 19, zt_icmp_ne 23), (19, 20, zt_ic 0), (20, 23, zt_goto 34), (23, 24, zt_aload 0), (24, 27, zt_getL 20 28), (27, 28, zt_aload 0), (28, 31, zt_getL 20 20), (31, 32, zt_ic 0), (32, 33, zt_iald), (33, 34, zt_iald), (34, 35, zt_iret)]
theorem TX12_leftNow_ok : ∀ i ∈ TX12_leftNow, Ent mX12_leftNow i := by
  refine List.forall_mem_cons.mpr ⟨ze_aload_n (k := 0) (by decide +kernel) rfl, ?_⟩
  refine List.forall_mem_cons.mpr ⟨ze_aload_n (k := 0) (by decide +kernel) rfl, ?_⟩
  refine List.forall_mem_cons.mpr ⟨ze_getL (by decide +kernel) fl_X12_38 rfl (by decide), ?_⟩
  refine List.forall_mem_cons.mpr ⟨ze_callVF (idx := 289) (by decide +kernel) ml_X12_289 mv_X12_laysYears rfl, ?_⟩
  refine List.forall_mem_cons.mpr ⟨ze_aload_n (k := 0) (by decide +kernel) rfl, ?_⟩
  refine List.forall_mem_cons.mpr ⟨ze_getL (by decide +kernel) fl_X12_38 rfl (by decide), ?_⟩
  refine List.forall_mem_cons.mpr ⟨ze_bipush (n := 6) (by decide +kernel) (by decide), ?_⟩
  refine List.forall_mem_cons.mpr ⟨ze_iald (by decide +kernel), ?_⟩
  refine List.forall_mem_cons.mpr ⟨ze_iconst (n := 1) (by decide +kernel) (by decide), ?_⟩
  refine List.forall_mem_cons.mpr ⟨ze_icmp_ne (off := 7) (by decide +kernel) (by decide), ?_⟩
  refine List.forall_mem_cons.mpr ⟨ze_iconst (n := 0) (by decide +kernel) (by decide), ?_⟩
  refine List.forall_mem_cons.mpr ⟨ze_goto (off := 14) (by decide +kernel) (by decide), ?_⟩
  refine List.forall_mem_cons.mpr ⟨ze_aload_n (k := 0) (by decide +kernel) rfl, ?_⟩
  refine List.forall_mem_cons.mpr ⟨ze_getL (by decide +kernel) fl_X12_50 rfl (by decide), ?_⟩
  refine List.forall_mem_cons.mpr ⟨ze_aload_n (k := 0) (by decide +kernel) rfl, ?_⟩
  refine List.forall_mem_cons.mpr ⟨ze_getL (by decide +kernel) fl_X12_38 rfl (by decide), ?_⟩
  refine List.forall_mem_cons.mpr ⟨ze_iconst (n := 0) (by decide +kernel) (by decide), ?_⟩
  refine List.forall_mem_cons.mpr ⟨ze_iald (by decide +kernel), ?_⟩
  refine List.forall_mem_cons.mpr ⟨ze_iald (by decide +kernel), ?_⟩
  refine List.forall_mem_cons.mpr ⟨ze_iret (by decide +kernel) rfl, ?_⟩
  exact fun _ h => absurd h List.not_mem_nil
theorem vX12_leftNow {l : Launch} {G : GT} {d : Nat} {av : List Value} {Q : Po} {σ : Mm} (cs : List (Nat × List Nat)) (k : Nat) (h : vc l G d mX12_leftNow TX12_leftNow Q cs k TX12_leftNow (lv_args 0 av) [] σ) (hlen : (lg_sl av).length ≤ mX12_leftNow.2.2.1 := by exact Nat.le_of_ble_eq_true rfl) : MW l G d mX12_leftNow av σ Q := mw_vc TX12_leftNow_ok mc_X12_leftNow rfl hlen cs k rfl h
theorem wX12_leftNow {l : Launch} {G : GT} {d : Nat} {Q : Po} {pc : Nat} {lv : Lv} {st : List Value} {σ : Mm} (cs : List (Nat × List Nat)) (k : Nat) (h : vc l G d mX12_leftNow TX12_leftNow Q cs k (drp TX12_leftNow pc) lv st σ) (hpc : hdp (drp TX12_leftNow pc) = pc := by rfl) : Wp l G d mX12_leftNow pc lv st σ Q := wp_vc TX12_leftNow_ok cs k hpc h
def TX12_most : List In := [(0, 1, zt_aload 0), (1, 2, zt_ic 0), (2, 5, zt_putI 20 0), (5, 6, zt_aload 0), (6, 9, zt_getI 20 17), (9, 12, zt_if_ne 16), (12, 15, zt_ic (-1000000 : Int32)), (15, 16, zt_iret), (16, 17, zt_iload 1), (17, 80, zt_tsw 0 11 [80, 88, 96, 104, 112, 119, 126, 131, 139, 146, 153, 161] 166), (80, 81, zt_aload 0), (81, 84, zt_getL 20 20), (84, 86, zt_ic 7), (86, 87, zt_iald), (87, 88, zt_iret), (88, 89, zt_aload 0), (89, 92, zt_getL 20 20), (92, 94, zt_ic 8), (94, 95, zt_iald), (95, 96, zt_iret), (96, 97, zt_aload 0), (97, 100, zt_getL 20 20), (100, 102, zt_ic 9), (102, 103, zt_iald), (103, 104, zt_iret), (104, 105, zt_aload 0), (105, 108, zt_getL 20 20), (108, 110, zt_ic 10), (110, 111, zt_iald), (111, 112, zt_iret), (112, 113, zt_aload 0), (113, 116, zt_getL 20 20), (116, 117, zt_ic 0), (117, 118, zt_iald), (118, 119, zt_iret), (119, 120, zt_aload 0), (120, 123, zt_getL 20 20), (123, 124, zt_ic 1), (124, 125, zt_iald), (125, 126, zt_iret), (126, 127, zt_aload 0), (127, 130, zt_callVF mX12_leftNow 0 20), (130, 131, zt_iret), (131, 132, zt_aload 0), (132, 135, zt_getL 20 20), (135, 137, zt_ic 6), (137, 138, zt_iald), (138, 139, zt_iret), (139, 140, zt_aload 0), (140, 143, zt_getL 20 20), (143, 144, zt_ic 4), (144, 145, zt_iald), (145, 146, zt_iret), (146, 147, zt_aload 0), (147, 150, zt_getL 20 20), (150, 151, zt_ic 5), (151, 152, zt_iald), (152, 153, zt_iret), (153, 154, zt_aload 0), (154, 157, zt_getL 20 20), (157, 159, zt_ic 11), (159, 160, zt_iald), (160, 161, zt_iret), (161, 162, zt_aload 0), (162, 165, zt_callVF mX12_highest 0 20), (165, 166, zt_iret), (166, 169, zt_ic (-1000000 : Int32)), (169, 170, zt_iret)]
theorem TX12_most_ok : ∀ i ∈ TX12_most, Ent mX12_most i := by
  refine List.forall_mem_cons.mpr ⟨ze_aload_n (k := 0) (by decide +kernel) rfl, ?_⟩
  refine List.forall_mem_cons.mpr ⟨ze_iconst (n := 0) (by decide +kernel) (by decide), ?_⟩
  refine List.forall_mem_cons.mpr ⟨ze_putI (by decide +kernel) fl_X12_82 ⟨_, _, _, rfl, rfl, by decide +kernel⟩ rfl, ?_⟩
  refine List.forall_mem_cons.mpr ⟨ze_aload_n (k := 0) (by decide +kernel) rfl, ?_⟩
  refine List.forall_mem_cons.mpr ⟨ze_getI (by decide +kernel) fl_X12_202 rfl, ?_⟩
  refine List.forall_mem_cons.mpr ⟨ze_if_ne (off := 7) (by decide +kernel) (by decide), ?_⟩
  refine List.forall_mem_cons.mpr ⟨ze_ldcw (i := 390) (by decide +kernel) kc_X12_390, ?_⟩
  refine List.forall_mem_cons.mpr ⟨ze_iret (by decide +kernel) rfl, ?_⟩
  refine List.forall_mem_cons.mpr ⟨ze_iload_n (k := 1) (by decide +kernel) rfl, ?_⟩
  refine List.forall_mem_cons.mpr ⟨ze_tsw (len := 63) (df0 := 149) (offs := #[63, 71, 79, 87, 95, 102, 109, 114, 122, 129, 136, 144]) (by decide +kernel) (by decide) (by decide +kernel) (by decide), ?_⟩
  refine List.forall_mem_cons.mpr ⟨ze_aload_n (k := 0) (by decide +kernel) rfl, ?_⟩
  refine List.forall_mem_cons.mpr ⟨ze_getL (by decide +kernel) fl_X12_38 rfl (by decide), ?_⟩
  refine List.forall_mem_cons.mpr ⟨ze_bipush (n := 7) (by decide +kernel) (by decide), ?_⟩
  refine List.forall_mem_cons.mpr ⟨ze_iald (by decide +kernel), ?_⟩
  refine List.forall_mem_cons.mpr ⟨ze_iret (by decide +kernel) rfl, ?_⟩
  refine List.forall_mem_cons.mpr ⟨ze_aload_n (k := 0) (by decide +kernel) rfl, ?_⟩
  refine List.forall_mem_cons.mpr ⟨ze_getL (by decide +kernel) fl_X12_38 rfl (by decide), ?_⟩
  refine List.forall_mem_cons.mpr ⟨ze_bipush (n := 8) (by decide +kernel) (by decide), ?_⟩
  refine List.forall_mem_cons.mpr ⟨ze_iald (by decide +kernel), ?_⟩
  refine List.forall_mem_cons.mpr ⟨ze_iret (by decide +kernel) rfl, ?_⟩
  refine List.forall_mem_cons.mpr ⟨ze_aload_n (k := 0) (by decide +kernel) rfl, ?_⟩
  refine List.forall_mem_cons.mpr ⟨ze_getL (by decide +kernel) fl_X12_38 rfl (by decide), ?_⟩
  refine List.forall_mem_cons.mpr ⟨ze_bipush (n := 9) (by decide +kernel) (by decide), ?_⟩
  refine List.forall_mem_cons.mpr ⟨ze_iald (by decide +kernel), ?_⟩
  refine List.forall_mem_cons.mpr ⟨ze_iret (by decide +kernel) rfl, ?_⟩
  refine List.forall_mem_cons.mpr ⟨ze_aload_n (k := 0) (by decide +kernel) rfl, ?_⟩
  refine List.forall_mem_cons.mpr ⟨ze_getL (by decide +kernel) fl_X12_38 rfl (by decide), ?_⟩
  refine List.forall_mem_cons.mpr ⟨ze_bipush (n := 10) (by decide +kernel) (by decide), ?_⟩
  refine List.forall_mem_cons.mpr ⟨ze_iald (by decide +kernel), ?_⟩
  refine List.forall_mem_cons.mpr ⟨ze_iret (by decide +kernel) rfl, ?_⟩
  refine List.forall_mem_cons.mpr ⟨ze_aload_n (k := 0) (by decide +kernel) rfl, ?_⟩
  refine List.forall_mem_cons.mpr ⟨ze_getL (by decide +kernel) fl_X12_38 rfl (by decide), ?_⟩
  refine List.forall_mem_cons.mpr ⟨ze_iconst (n := 0) (by decide +kernel) (by decide), ?_⟩
  refine List.forall_mem_cons.mpr ⟨ze_iald (by decide +kernel), ?_⟩
  refine List.forall_mem_cons.mpr ⟨ze_iret (by decide +kernel) rfl, ?_⟩
  refine List.forall_mem_cons.mpr ⟨ze_aload_n (k := 0) (by decide +kernel) rfl, ?_⟩
  refine List.forall_mem_cons.mpr ⟨ze_getL (by decide +kernel) fl_X12_38 rfl (by decide), ?_⟩
  refine List.forall_mem_cons.mpr ⟨ze_iconst (n := 1) (by decide +kernel) (by decide), ?_⟩
  refine List.forall_mem_cons.mpr ⟨ze_iald (by decide +kernel), ?_⟩
  refine List.forall_mem_cons.mpr ⟨ze_iret (by decide +kernel) rfl, ?_⟩
  refine List.forall_mem_cons.mpr ⟨ze_aload_n (k := 0) (by decide +kernel) rfl, ?_⟩
  refine List.forall_mem_cons.mpr ⟨ze_callVF (idx := 457) (by decide +kernel) ml_X12_457 mv_X12_leftNow rfl, ?_⟩
  refine List.forall_mem_cons.mpr ⟨ze_iret (by decide +kernel) rfl, ?_⟩
  refine List.forall_mem_cons.mpr ⟨ze_aload_n (k := 0) (by decide +kernel) rfl, ?_⟩
  refine List.forall_mem_cons.mpr ⟨ze_getL (by decide +kernel) fl_X12_38 rfl (by decide), ?_⟩
  refine List.forall_mem_cons.mpr ⟨ze_bipush (n := 6) (by decide +kernel) (by decide), ?_⟩
  refine List.forall_mem_cons.mpr ⟨ze_iald (by decide +kernel), ?_⟩
  refine List.forall_mem_cons.mpr ⟨ze_iret (by decide +kernel) rfl, ?_⟩
  refine List.forall_mem_cons.mpr ⟨ze_aload_n (k := 0) (by decide +kernel) rfl, ?_⟩
  refine List.forall_mem_cons.mpr ⟨ze_getL (by decide +kernel) fl_X12_38 rfl (by decide), ?_⟩
  refine List.forall_mem_cons.mpr ⟨ze_iconst (n := 4) (by decide +kernel) (by decide), ?_⟩
  refine List.forall_mem_cons.mpr ⟨ze_iald (by decide +kernel), ?_⟩
  refine List.forall_mem_cons.mpr ⟨ze_iret (by decide +kernel) rfl, ?_⟩
  refine List.forall_mem_cons.mpr ⟨ze_aload_n (k := 0) (by decide +kernel) rfl, ?_⟩
  refine List.forall_mem_cons.mpr ⟨ze_getL (by decide +kernel) fl_X12_38 rfl (by decide), ?_⟩
  refine List.forall_mem_cons.mpr ⟨ze_iconst (n := 5) (by decide +kernel) (by decide), ?_⟩
  refine List.forall_mem_cons.mpr ⟨ze_iald (by decide +kernel), ?_⟩
  refine List.forall_mem_cons.mpr ⟨ze_iret (by decide +kernel) rfl, ?_⟩
  refine List.forall_mem_cons.mpr ⟨ze_aload_n (k := 0) (by decide +kernel) rfl, ?_⟩
  refine List.forall_mem_cons.mpr ⟨ze_getL (by decide +kernel) fl_X12_38 rfl (by decide), ?_⟩
  refine List.forall_mem_cons.mpr ⟨ze_bipush (n := 11) (by decide +kernel) (by decide), ?_⟩
  refine List.forall_mem_cons.mpr ⟨ze_iald (by decide +kernel), ?_⟩
  refine List.forall_mem_cons.mpr ⟨ze_iret (by decide +kernel) rfl, ?_⟩
  refine List.forall_mem_cons.mpr ⟨ze_aload_n (k := 0) (by decide +kernel) rfl, ?_⟩
  refine List.forall_mem_cons.mpr ⟨ze_callVF (idx := 460) (by decide +kernel) ml_X12_460 mv_X12_highest rfl, ?_⟩
  refine List.forall_mem_cons.mpr ⟨ze_iret (by decide +kernel) rfl, ?_⟩
  refine List.forall_mem_cons.mpr ⟨ze_ldcw (i := 390) (by decide +kernel) kc_X12_390, ?_⟩
  refine List.forall_mem_cons.mpr ⟨ze_iret (by decide +kernel) rfl, ?_⟩
  exact fun _ h => absurd h List.not_mem_nil
theorem vX12_most {l : Launch} {G : GT} {d : Nat} {av : List Value} {Q : Po} {σ : Mm} (cs : List (Nat × List Nat)) (k : Nat) (h : vc l G d mX12_most TX12_most Q cs k TX12_most (lv_args 0 av) [] σ) (hlen : (lg_sl av).length ≤ mX12_most.2.2.1 := by exact Nat.le_of_ble_eq_true rfl) : MW l G d mX12_most av σ Q := mw_vc TX12_most_ok mc_X12_most rfl hlen cs k rfl h
theorem wX12_most {l : Launch} {G : GT} {d : Nat} {Q : Po} {pc : Nat} {lv : Lv} {st : List Value} {σ : Mm} (cs : List (Nat × List Nat)) (k : Nat) (h : vc l G d mX12_most TX12_most Q cs k (drp TX12_most pc) lv st σ) (hpc : hdp (drp TX12_most pc) = pc := by rfl) : Wp l G d mX12_most pc lv st σ Q := wp_vc TX12_most_ok cs k hpc h
def TX12_count : List In := [(0, 1, zt_aload 0), (1, 2, zt_ic 0), (2, 5, zt_putI 20 0), (5, 6, zt_iload 1), (6, 40, zt_tsw 0 4 [40, 58, 63, 68, 77] 82), (40, 41, zt_aload 0), (41, 44, zt_getI 20 17), (44, 47, zt_if_eq 56), (47, 48, zt_aload 0), (48, 51, zt_getL 20 6), (51, 52, zt_ic 1), (52, 53, zt_iald), (53, 56, zt_goto 57), (56, 57, zt_ic 0), (57, 58, zt_iret), (58, 59, zt_aload 0), (59, 62, zt_getI 20 16), (62, 63, zt_iret), (63, 64, zt_aload 0), (64, 67, zt_getI 20 2), (67, 68, zt_iret), (68, 69, zt_aload 0), (69, 72, zt_getL 20 20), (72, 75, zt_ic 313), (75, 76, zt_iald), (76, 77, zt_iret), (77, 78, zt_aload 0), (78, 81, zt_getI 20 25), (81, 82, zt_iret), (82, 85, zt_ic (-1000000 : Int32)), (85, 86, zt_iret)]
theorem TX12_count_ok : ∀ i ∈ TX12_count, Ent mX12_count i := by
  refine List.forall_mem_cons.mpr ⟨ze_aload_n (k := 0) (by decide +kernel) rfl, ?_⟩
  refine List.forall_mem_cons.mpr ⟨ze_iconst (n := 0) (by decide +kernel) (by decide), ?_⟩
  refine List.forall_mem_cons.mpr ⟨ze_putI (by decide +kernel) fl_X12_82 ⟨_, _, _, rfl, rfl, by decide +kernel⟩ rfl, ?_⟩
  refine List.forall_mem_cons.mpr ⟨ze_iload_n (k := 1) (by decide +kernel) rfl, ?_⟩
  refine List.forall_mem_cons.mpr ⟨ze_tsw (len := 34) (df0 := 76) (offs := #[34, 52, 57, 62, 71]) (by decide +kernel) (by decide) (by decide +kernel) (by decide), ?_⟩
  refine List.forall_mem_cons.mpr ⟨ze_aload_n (k := 0) (by decide +kernel) rfl, ?_⟩
  refine List.forall_mem_cons.mpr ⟨ze_getI (by decide +kernel) fl_X12_202 rfl, ?_⟩
  refine List.forall_mem_cons.mpr ⟨ze_if_eq (off := 12) (by decide +kernel) (by decide), ?_⟩
  refine List.forall_mem_cons.mpr ⟨ze_aload_n (k := 0) (by decide +kernel) rfl, ?_⟩
  refine List.forall_mem_cons.mpr ⟨ze_getL (by decide +kernel) fl_X12_17 rfl (by decide), ?_⟩
  refine List.forall_mem_cons.mpr ⟨ze_iconst (n := 1) (by decide +kernel) (by decide), ?_⟩
  refine List.forall_mem_cons.mpr ⟨ze_iald (by decide +kernel), ?_⟩
  refine List.forall_mem_cons.mpr ⟨ze_goto (off := 4) (by decide +kernel) (by decide), ?_⟩
  refine List.forall_mem_cons.mpr ⟨ze_iconst (n := 0) (by decide +kernel) (by decide), ?_⟩
  refine List.forall_mem_cons.mpr ⟨ze_iret (by decide +kernel) rfl, ?_⟩
  refine List.forall_mem_cons.mpr ⟨ze_aload_n (k := 0) (by decide +kernel) rfl, ?_⟩
  refine List.forall_mem_cons.mpr ⟨ze_getI (by decide +kernel) fl_X12_220 rfl, ?_⟩
  refine List.forall_mem_cons.mpr ⟨ze_iret (by decide +kernel) rfl, ?_⟩
  refine List.forall_mem_cons.mpr ⟨ze_aload_n (k := 0) (by decide +kernel) rfl, ?_⟩
  refine List.forall_mem_cons.mpr ⟨ze_getI (by decide +kernel) fl_X12_86 rfl, ?_⟩
  refine List.forall_mem_cons.mpr ⟨ze_iret (by decide +kernel) rfl, ?_⟩
  refine List.forall_mem_cons.mpr ⟨ze_aload_n (k := 0) (by decide +kernel) rfl, ?_⟩
  refine List.forall_mem_cons.mpr ⟨ze_getL (by decide +kernel) fl_X12_38 rfl (by decide), ?_⟩
  refine List.forall_mem_cons.mpr ⟨ze_sipush (n := 313) (by decide +kernel) (by decide), ?_⟩
  refine List.forall_mem_cons.mpr ⟨ze_iald (by decide +kernel), ?_⟩
  refine List.forall_mem_cons.mpr ⟨ze_iret (by decide +kernel) rfl, ?_⟩
  refine List.forall_mem_cons.mpr ⟨ze_aload_n (k := 0) (by decide +kernel) rfl, ?_⟩
  refine List.forall_mem_cons.mpr ⟨ze_getI (by decide +kernel) fl_X12_214 rfl, ?_⟩
  refine List.forall_mem_cons.mpr ⟨ze_iret (by decide +kernel) rfl, ?_⟩
  refine List.forall_mem_cons.mpr ⟨ze_ldcw (i := 390) (by decide +kernel) kc_X12_390, ?_⟩
  refine List.forall_mem_cons.mpr ⟨ze_iret (by decide +kernel) rfl, ?_⟩
  exact fun _ h => absurd h List.not_mem_nil
theorem vX12_count {l : Launch} {G : GT} {d : Nat} {av : List Value} {Q : Po} {σ : Mm} (cs : List (Nat × List Nat)) (k : Nat) (h : vc l G d mX12_count TX12_count Q cs k TX12_count (lv_args 0 av) [] σ) (hlen : (lg_sl av).length ≤ mX12_count.2.2.1 := by exact Nat.le_of_ble_eq_true rfl) : MW l G d mX12_count av σ Q := mw_vc TX12_count_ok mc_X12_count rfl hlen cs k rfl h
theorem wX12_count {l : Launch} {G : GT} {d : Nat} {Q : Po} {pc : Nat} {lv : Lv} {st : List Value} {σ : Mm} (cs : List (Nat × List Nat)) (k : Nat) (h : vc l G d mX12_count TX12_count Q cs k (drp TX12_count pc) lv st σ) (hpc : hdp (drp TX12_count pc) = pc := by rfl) : Wp l G d mX12_count pc lv st σ Q := wp_vc TX12_count_ok cs k hpc h
