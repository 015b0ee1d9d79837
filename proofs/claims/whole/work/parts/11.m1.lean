def TX12_interest : List In := [(0, 1, zt_aload 0), (1, 4, zt_getL 20 28), (4, 5, zt_iload 2), (5, 6, zt_ic 1), (6, 7, zt_isub), (7, 8, zt_iald), (8, 9, zt_iload 1), (9, 10, zt_imul), (10, 13, zt_ic 1000), (13, 14, zt_idiv), (14, 15, zt_iret)]
theorem TX12_interest_ok : ∀ i ∈ TX12_interest, Ent mX12_interest i := by
  refine List.forall_mem_cons.mpr ⟨ze_aload_n (k := 0) (by decide +kernel) rfl, ?_⟩
  refine List.forall_mem_cons.mpr ⟨ze_getL (by decide +kernel) fl_X12_50 rfl (by decide), ?_⟩
  refine List.forall_mem_cons.mpr ⟨ze_iload_n (k := 2) (by decide +kernel) rfl, ?_⟩
  refine List.forall_mem_cons.mpr ⟨ze_iconst (n := 1) (by decide +kernel) (by decide), ?_⟩
  refine List.forall_mem_cons.mpr ⟨ze_isub (by decide +kernel), ?_⟩
  refine List.forall_mem_cons.mpr ⟨ze_iald (by decide +kernel), ?_⟩
  refine List.forall_mem_cons.mpr ⟨ze_iload_n (k := 1) (by decide +kernel) rfl, ?_⟩
  refine List.forall_mem_cons.mpr ⟨ze_imul (by decide +kernel), ?_⟩
  refine List.forall_mem_cons.mpr ⟨ze_sipush (n := 1000) (by decide +kernel) (by decide), ?_⟩
  refine List.forall_mem_cons.mpr ⟨ze_idiv (by decide +kernel), ?_⟩
  refine List.forall_mem_cons.mpr ⟨ze_iret (by decide +kernel) rfl, ?_⟩
  exact fun _ h => absurd h List.not_mem_nil
theorem vX12_interest {l : Launch} {G : GT} {d : Nat} {av : List Value} {Q : Po} {σ : Mm} (cs : List (Nat × List Nat)) (k : Nat) (h : vc l G d mX12_interest TX12_interest Q cs k TX12_interest (lv_args 0 av) [] σ) (hlen : (lg_sl av).length ≤ mX12_interest.2.2.1 := by exact Nat.le_of_ble_eq_true rfl) : MW l G d mX12_interest av σ Q := mw_vc TX12_interest_ok mc_X12_interest rfl hlen cs k rfl h
theorem wX12_interest {l : Launch} {G : GT} {d : Nat} {Q : Po} {pc : Nat} {lv : Lv} {st : List Value} {σ : Mm} (cs : List (Nat × List Nat)) (k : Nat) (h : vc l G d mX12_interest TX12_interest Q cs k (drp TX12_interest pc) lv st σ) (hpc : hdp (drp TX12_interest pc) = pc := by rfl) : Wp l G d mX12_interest pc lv st σ Q := wp_vc TX12_interest_ok cs k hpc h
def TX12_due : List In := [(0, 1, zt_aload 0), (1, 4, zt_getL 20 29), (4, 5, zt_iload 2), (5, 6, zt_iald), (6, 7, zt_aload 0), (7, 8, zt_iload 1), (8, 9, zt_iload 2), (9, 12, zt_callVF mX12_interest 2 20), (12, 13, zt_iadd), (13, 14, zt_iret)]
theorem TX12_due_ok : ∀ i ∈ TX12_due, Ent mX12_due i := by
  refine List.forall_mem_cons.mpr ⟨ze_aload_n (k := 0) (by decide +kernel) rfl, ?_⟩
  refine List.forall_mem_cons.mpr ⟨ze_getL (by decide +kernel) fl_X12_53 rfl (by decide), ?_⟩
  refine List.forall_mem_cons.mpr ⟨ze_iload_n (k := 2) (by decide +kernel) rfl, ?_⟩
  refine List.forall_mem_cons.mpr ⟨ze_iald (by decide +kernel), ?_⟩
  refine List.forall_mem_cons.mpr ⟨ze_aload_n (k := 0) (by decide +kernel) rfl, ?_⟩
  refine List.forall_mem_cons.mpr ⟨ze_iload_n (k := 1) (by decide +kernel) rfl, ?_⟩
  refine List.forall_mem_cons.mpr ⟨ze_iload_n (k := 2) (by decide +kernel) rfl, ?_⟩
  refine List.forall_mem_cons.mpr ⟨ze_callVF (idx := 241) (by decide +kernel) ml_X12_241 mv_X12_interest rfl, ?_⟩
  refine List.forall_mem_cons.mpr ⟨ze_iadd (by decide +kernel), ?_⟩
  refine List.forall_mem_cons.mpr ⟨ze_iret (by decide +kernel) rfl, ?_⟩
  exact fun _ h => absurd h List.not_mem_nil
theorem vX12_due {l : Launch} {G : GT} {d : Nat} {av : List Value} {Q : Po} {σ : Mm} (cs : List (Nat × List Nat)) (k : Nat) (h : vc l G d mX12_due TX12_due Q cs k TX12_due (lv_args 0 av) [] σ) (hlen : (lg_sl av).length ≤ mX12_due.2.2.1 := by exact Nat.le_of_ble_eq_true rfl) : MW l G d mX12_due av σ Q := mw_vc TX12_due_ok mc_X12_due rfl hlen cs k rfl h
theorem wX12_due {l : Launch} {G : GT} {d : Nat} {Q : Po} {pc : Nat} {lv : Lv} {st : List Value} {σ : Mm} (cs : List (Nat × List Nat)) (k : Nat) (h : vc l G d mX12_due TX12_due Q cs k (drp TX12_due pc) lv st σ) (hpc : hdp (drp TX12_due pc) = pc := by rfl) : Wp l G d mX12_due pc lv st σ Q := wp_vc TX12_due_ok cs k hpc h
def TX12_cell : List In := [(0, 3, zt_ic 145), (3, 4, zt_iload 0), (4, 5, zt_imul), (5, 6, zt_iload 1), (6, 7, zt_iadd), (7, 10, zt_ic 144), (10, 11, zt_imul), (11, 12, zt_iload 2), (12, 13, zt_iload 3), (13, 16, zt_callSF mX12_node 2), (16, 17, zt_iadd), (17, 18, zt_iret)]
theorem TX12_cell_ok : ∀ i ∈ TX12_cell, Ent mX12_cell i := by
  refine List.forall_mem_cons.mpr ⟨ze_sipush (n := 145) (by decide +kernel) (by decide), ?_⟩
  refine List.forall_mem_cons.mpr ⟨ze_iload_n (k := 0) (by decide +kernel) rfl, ?_⟩
  refine List.forall_mem_cons.mpr ⟨ze_imul (by decide +kernel), ?_⟩
  refine List.forall_mem_cons.mpr ⟨ze_iload_n (k := 1) (by decide +kernel) rfl, ?_⟩
  refine List.forall_mem_cons.mpr ⟨ze_iadd (by decide +kernel), ?_⟩
  refine List.forall_mem_cons.mpr ⟨ze_sipush (n := 144) (by decide +kernel) (by decide), ?_⟩
  refine List.forall_mem_cons.mpr ⟨ze_imul (by decide +kernel), ?_⟩
  refine List.forall_mem_cons.mpr ⟨ze_iload_n (k := 2) (by decide +kernel) rfl, ?_⟩
  refine List.forall_mem_cons.mpr ⟨ze_iload_n (k := 3) (by decide +kernel) rfl, ?_⟩
  refine List.forall_mem_cons.mpr ⟨ze_callSF (idx := 210) (by decide +kernel) ml_X12_210 ms_X12_node, ?_⟩
  refine List.forall_mem_cons.mpr ⟨ze_iadd (by decide +kernel), ?_⟩
  refine List.forall_mem_cons.mpr ⟨ze_iret (by decide +kernel) rfl, ?_⟩
  exact fun _ h => absurd h List.not_mem_nil
theorem vX12_cell {l : Launch} {G : GT} {d : Nat} {av : List Value} {Q : Po} {σ : Mm} (cs : List (Nat × List Nat)) (k : Nat) (h : vc l G d mX12_cell TX12_cell Q cs k TX12_cell (lv_args 0 av) [] σ) (hlen : (lg_sl av).length ≤ mX12_cell.2.2.1 := by exact Nat.le_of_ble_eq_true rfl) : MW l G d mX12_cell av σ Q := mw_vc TX12_cell_ok mc_X12_cell rfl hlen cs k rfl h
theorem wX12_cell {l : Launch} {G : GT} {d : Nat} {Q : Po} {pc : Nat} {lv : Lv} {st : List Value} {σ : Mm} (cs : List (Nat × List Nat)) (k : Nat) (h : vc l G d mX12_cell TX12_cell Q cs k (drp TX12_cell pc) lv st σ) (hpc : hdp (drp TX12_cell pc) = pc := by rfl) : Wp l G d mX12_cell pc lv st σ Q := wp_vc TX12_cell_ok cs k hpc h
def TX12_next : List In := [(0, 1, zt_aload 0), (1, 4, zt_getL 20 6), (4, 6, zt_ic 6), (6, 7, zt_iald), (7, 8, zt_i2l), (8, 10, zt_lload 4), (10, 11, zt_lmul), (11, 13, zt_ic 100), (13, 14, zt_aload 0), (14, 17, zt_getL 20 6), (17, 19, zt_ic 6), (19, 20, zt_iald), (20, 21, zt_isub), (21, 22, zt_i2l), (22, 24, zt_lload 6), (24, 25, zt_lmul), (25, 26, zt_ladd), (26, 29, zt_lc (10 : Int64)), (29, 30, zt_lmul), (30, 33, zt_ic 1000), (33, 34, zt_aload 0), (34, 35, zt_aload 1), (35, 36, zt_iload 2), (36, 37, zt_iload 3), (37, 40, zt_callVF mX12_rateOf 3 20), (40, 41, zt_iadd), (41, 42, zt_i2l), (42, 43, zt_ldiv), (43, 44, zt_lret)]
theorem TX12_next_ok : ∀ i ∈ TX12_next, Ent mX12_next i := by
  refine List.forall_mem_cons.mpr ⟨ze_aload_n (k := 0) (by decide +kernel) rfl, ?_⟩
  refine List.forall_mem_cons.mpr ⟨ze_getL (by decide +kernel) fl_X12_17 rfl (by decide), ?_⟩
  refine List.forall_mem_cons.mpr ⟨ze_bipush (n := 6) (by decide +kernel) (by decide), ?_⟩
  refine List.forall_mem_cons.mpr ⟨ze_iald (by decide +kernel), ?_⟩
  refine List.forall_mem_cons.mpr ⟨ze_i2l (by decide +kernel), ?_⟩
  refine List.forall_mem_cons.mpr ⟨ze_lload (by decide +kernel), ?_⟩
  refine List.forall_mem_cons.mpr ⟨ze_lmul (by decide +kernel), ?_⟩
  refine List.forall_mem_cons.mpr ⟨ze_bipush (n := 100) (by decide +kernel) (by decide), ?_⟩
  refine List.forall_mem_cons.mpr ⟨ze_aload_n (k := 0) (by decide +kernel) rfl, ?_⟩
  refine List.forall_mem_cons.mpr ⟨ze_getL (by decide +kernel) fl_X12_17 rfl (by decide), ?_⟩
  refine List.forall_mem_cons.mpr ⟨ze_bipush (n := 6) (by decide +kernel) (by decide), ?_⟩
  refine List.forall_mem_cons.mpr ⟨ze_iald (by decide +kernel), ?_⟩
  refine List.forall_mem_cons.mpr ⟨ze_isub (by decide +kernel), ?_⟩
  refine List.forall_mem_cons.mpr ⟨ze_i2l (by decide +kernel), ?_⟩
  refine List.forall_mem_cons.mpr ⟨ze_lload (by decide +kernel), ?_⟩
  refine List.forall_mem_cons.mpr ⟨ze_lmul (by decide +kernel), ?_⟩
  refine List.forall_mem_cons.mpr ⟨ze_ladd (by decide +kernel), ?_⟩
  refine List.forall_mem_cons.mpr ⟨ze_ldc2 (i := 244) (by decide +kernel) kc_X12_244, ?_⟩
  refine List.forall_mem_cons.mpr ⟨ze_lmul (by decide +kernel), ?_⟩
  refine List.forall_mem_cons.mpr ⟨ze_sipush (n := 1000) (by decide +kernel) (by decide), ?_⟩
  refine List.forall_mem_cons.mpr ⟨ze_aload_n (k := 0) (by decide +kernel) rfl, ?_⟩
  refine List.forall_mem_cons.mpr ⟨ze_aload_n (k := 1) (by decide +kernel) rfl, ?_⟩
  refine List.forall_mem_cons.mpr ⟨ze_iload_n (k := 2) (by decide +kernel) rfl, ?_⟩
  refine List.forall_mem_cons.mpr ⟨ze_iload_n (k := 3) (by decide +kernel) rfl, ?_⟩
  refine List.forall_mem_cons.mpr ⟨ze_callVF (idx := 237) (by decide +kernel) ml_X12_237 mv_X12_rateOf rfl, ?_⟩
  refine List.forall_mem_cons.mpr ⟨ze_iadd (by decide +kernel), ?_⟩
  refine List.forall_mem_cons.mpr ⟨ze_i2l (by decide +kernel), ?_⟩
  refine List.forall_mem_cons.mpr ⟨ze_ldiv (by decide +kernel), ?_⟩
  refine List.forall_mem_cons.mpr ⟨ze_lret (by decide +kernel) rfl, ?_⟩
  exact fun _ h => absurd h List.not_mem_nil
theorem vX12_next {l : Launch} {G : GT} {d : Nat} {av : List Value} {Q : Po} {σ : Mm} (cs : List (Nat × List Nat)) (k : Nat) (h : vc l G d mX12_next TX12_next Q cs k TX12_next (lv_args 0 av) [] σ) (hlen : (lg_sl av).length ≤ mX12_next.2.2.1 := by exact Nat.le_of_ble_eq_true rfl) : MW l G d mX12_next av σ Q := mw_vc TX12_next_ok mc_X12_next rfl hlen cs k rfl h
theorem wX12_next {l : Launch} {G : GT} {d : Nat} {Q : Po} {pc : Nat} {lv : Lv} {st : List Value} {σ : Mm} (cs : List (Nat × List Nat)) (k : Nat) (h : vc l G d mX12_next TX12_next Q cs k (drp TX12_next pc) lv st σ) (hpc : hdp (drp TX12_next pc) = pc := by rfl) : Wp l G d mX12_next pc lv st σ Q := wp_vc TX12_next_ok cs k hpc h
def TX12_behind : List In := [(0, 2, zt_iload 4), (2, 3, zt_aload 0), (3, 6, zt_getL 20 6), (6, 7, zt_ic 1), (7, 8, zt_iald), (8, 11, zt_icmp_ne 15), (11, 12, zt_lc 0), (12, 15, zt_goto 26), (15, 16, zt_aload 1), (16, 17, zt_iload 2), (17, 18, zt_iload 3), (18, 20, zt_iload 4), (20, 22, zt_iload 5), (22, 25, zt_callSF mX12_cell 4), (25, 26, zt_lald), (26, 27, zt_lret)]
theorem TX12_behind_ok : ∀ i ∈ TX12_behind, Ent mX12_behind i := by
  refine List.forall_mem_cons.mpr ⟨ze_iload (by decide +kernel), ?_⟩
  refine List.forall_mem_cons.mpr ⟨ze_aload_n (k := 0) (by decide +kernel) rfl, ?_⟩
  refine List.forall_mem_cons.mpr ⟨ze_getL (by decide +kernel) fl_X12_17 rfl (by decide), ?_⟩
  refine List.forall_mem_cons.mpr ⟨ze_iconst (n := 1) (by decide +kernel) (by decide), ?_⟩
  refine List.forall_mem_cons.mpr ⟨ze_iald (by decide +kernel), ?_⟩
  refine List.forall_mem_cons.mpr ⟨ze_icmp_ne (off := 7) (by decide +kernel) (by decide), ?_⟩
  refine List.forall_mem_cons.mpr ⟨ze_lconst (n := 0) (by decide +kernel) (by decide), ?_⟩
  refine List.forall_mem_cons.mpr ⟨ze_goto (off := 14) (by decide +kernel) (by decide), ?_⟩
  refine List.forall_mem_cons.mpr ⟨ze_aload_n (k := 1) (by decide +kernel) rfl, ?_⟩
  refine List.forall_mem_cons.mpr ⟨ze_iload_n (k := 2) (by decide +kernel) rfl, ?_⟩
  refine List.forall_mem_cons.mpr ⟨ze_iload_n (k := 3) (by decide +kernel) rfl, ?_⟩
  refine List.forall_mem_cons.mpr ⟨ze_iload (by decide +kernel), ?_⟩
  refine List.forall_mem_cons.mpr ⟨ze_iload (by decide +kernel), ?_⟩
  refine List.forall_mem_cons.mpr ⟨ze_callSF (idx := 246) (by decide +kernel) ml_X12_246 ms_X12_cell, ?_⟩
  refine List.forall_mem_cons.mpr ⟨ze_lald (by decide +kernel), ?_⟩
  refine List.forall_mem_cons.mpr ⟨ze_lret (by decide +kernel) rfl, ?_⟩
  exact fun _ h => absurd h List.not_mem_nil
theorem vX12_behind {l : Launch} {G : GT} {d : Nat} {av : List Value} {Q : Po} {σ : Mm} (cs : List (Nat × List Nat)) (k : Nat) (h : vc l G d mX12_behind TX12_behind Q cs k TX12_behind (lv_args 0 av) [] σ) (hlen : (lg_sl av).length ≤ mX12_behind.2.2.1 := by exact Nat.le_of_ble_eq_true rfl) : MW l G d mX12_behind av σ Q := mw_vc TX12_behind_ok mc_X12_behind rfl hlen cs k rfl h
theorem wX12_behind {l : Launch} {G : GT} {d : Nat} {Q : Po} {pc : Nat} {lv : Lv} {st : List Value} {σ : Mm} (cs : List (Nat × List Nat)) (k : Nat) (h : vc l G d mX12_behind TX12_behind Q cs k (drp TX12_behind pc) lv st σ) (hpc : hdp (drp TX12_behind pc) = pc := by rfl) : Wp l G d mX12_behind pc lv st σ Q := wp_vc TX12_behind_ok cs k hpc h
def TX12_held : List In := [(0, 1, zt_aload 0), (1, 3, zt_iload 5), (3, 5, zt_iload 6), (5, 6, zt_ic 1), (6, 7, zt_iadd), (7, 10, zt_callVF mX12_due 2 20), (10, 12, zt_istoreF 8), (12, 13, zt_aload 0), (13, 14, zt_aload 1), (14, 16, zt_iload 6), (16, 18, zt_iload 7), (18, 20, zt_iload 8), (20, 21, zt_i2l), (21, 22, zt_aload 0), (22, 23, zt_aload 2), (23, 24, zt_iload 3), (24, 26, zt_iload 4), (26, 28, zt_iload 6), (28, 29, zt_ic 1), (29, 30, zt_iadd), (30, 32, zt_iload 7), (32, 33, zt_ic 1), (33, 34, zt_iadd), (34, 37, zt_callVF mX12_behind 5 20), (37, 38, zt_ladd), (38, 40, zt_iload 8), (40, 41, zt_i2l), (41, 42, zt_aload 0), (42, 43, zt_aload 2), (43, 44, zt_iload 3), (44, 46, zt_iload 4), (46, 48, zt_iload 6), (48, 49, zt_ic 1), (49, 50, zt_iadd), (50, 52, zt_iload 7), (52, 55, zt_callVF mX12_behind 5 20), (55, 56, zt_ladd), (56, 59, zt_callVF mX12_next 5 20), (59, 60, zt_lret)]
theorem TX12_held_ok : ∀ i ∈ TX12_held, Ent mX12_held i := by
  refine List.forall_mem_cons.mpr ⟨ze_aload_n (k := 0) (by decide +kernel) rfl, ?_⟩
  refine List.forall_mem_cons.mpr ⟨ze_iload (by decide +kernel), ?_⟩
  refine List.forall_mem_cons.mpr ⟨ze_iload (by decide +kernel), ?_⟩
  refine List.forall_mem_cons.mpr ⟨ze_iconst (n := 1) (by decide +kernel) (by decide), ?_⟩
  refine List.forall_mem_cons.mpr ⟨ze_iadd (by decide +kernel), ?_⟩
  refine List.forall_mem_cons.mpr ⟨ze_callVF (idx := 250) (by decide +kernel) ml_X12_250 mv_X12_due rfl, ?_⟩
  refine List.forall_mem_cons.mpr ⟨ze_istoreF (by decide +kernel) (by decide), ?_⟩
  refine List.forall_mem_cons.mpr ⟨ze_aload_n (k := 0) (by decide +kernel) rfl, ?_⟩
  refine List.forall_mem_cons.mpr ⟨ze_aload_n (k := 1) (by decide +kernel) rfl, ?_⟩
  refine List.forall_mem_cons.mpr ⟨ze_iload (by decide +kernel), ?_⟩
  refine List.forall_mem_cons.mpr ⟨ze_iload (by decide +kernel), ?_⟩
  refine List.forall_mem_cons.mpr ⟨ze_iload (by decide +kernel), ?_⟩
  refine List.forall_mem_cons.mpr ⟨ze_i2l (by decide +kernel), ?_⟩
  refine List.forall_mem_cons.mpr ⟨ze_aload_n (k := 0) (by decide +kernel) rfl, ?_⟩
  refine List.forall_mem_cons.mpr ⟨ze_aload_n (k := 2) (by decide +kernel) rfl, ?_⟩
  refine List.forall_mem_cons.mpr ⟨ze_iload_n (k := 3) (by decide +kernel) rfl, ?_⟩
  refine List.forall_mem_cons.mpr ⟨ze_iload (by decide +kernel), ?_⟩
  refine List.forall_mem_cons.mpr ⟨ze_iload (by decide +kernel), ?_⟩
  refine List.forall_mem_cons.mpr ⟨ze_iconst (n := 1) (by decide +kernel) (by decide), ?_⟩
  refine List.forall_mem_cons.mpr ⟨ze_iadd (by decide +kernel), ?_⟩
  refine List.forall_mem_cons.mpr ⟨ze_iload (by decide +kernel), ?_⟩
  refine List.forall_mem_cons.mpr ⟨ze_iconst (n := 1) (by decide +kernel) (by decide), ?_⟩
  refine List.forall_mem_cons.mpr ⟨ze_iadd (by decide +kernel), ?_⟩
  refine List.forall_mem_cons.mpr ⟨ze_callVF (idx := 253) (by decide +kernel) ml_X12_253 mv_X12_behind rfl, ?_⟩
  refine List.forall_mem_cons.mpr ⟨ze_ladd (by decide +kernel), ?_⟩
  refine List.forall_mem_cons.mpr ⟨ze_iload (by decide +kernel), ?_⟩
  refine List.forall_mem_cons.mpr ⟨ze_i2l (by decide +kernel), ?_⟩
  refine List.forall_mem_cons.mpr ⟨ze_aload_n (k := 0) (by decide +kernel) rfl, ?_⟩
  refine List.forall_mem_cons.mpr ⟨ze_aload_n (k := 2) (by decide +kernel) rfl, ?_⟩
  refine List.forall_mem_cons.mpr ⟨ze_iload_n (k := 3) (by decide +kernel) rfl, ?_⟩
  refine List.forall_mem_cons.mpr ⟨ze_iload (by decide +kernel), ?_⟩
  refine List.forall_mem_cons.mpr ⟨ze_iload (by decide +kernel), ?_⟩
  refine List.forall_mem_cons.mpr ⟨ze_iconst (n := 1) (by decide +kernel) (by decide), ?_⟩
  refine List.forall_mem_cons.mpr ⟨ze_iadd (by decide +kernel), ?_⟩
  refine List.forall_mem_cons.mpr ⟨ze_iload (by decide +kernel), ?_⟩
  refine List.forall_mem_cons.mpr ⟨ze_callVF (idx := 253) (by decide +kernel) ml_X12_253 mv_X12_behind rfl, ?_⟩
  refine List.forall_mem_cons.mpr ⟨ze_ladd (by decide +kernel), ?_⟩
  refine List.forall_mem_cons.mpr ⟨ze_callVF (idx := 257) (by decide +kernel) ml_X12_257 mv_X12_next rfl, ?_⟩
  refine List.forall_mem_cons.mpr ⟨ze_lret (by decide +kernel) rfl, ?_⟩
  exact fun _ h => absurd h List.not_mem_nil
theorem vX12_held {l : Launch} {G : GT} {d : Nat} {av : List Value} {Q : Po} {σ : Mm} (cs : List (Nat × List Nat)) (k : Nat) (h : vc l G d mX12_held TX12_held Q cs k TX12_held (lv_args 0 av) [] σ) (hlen : (lg_sl av).length ≤ mX12_held.2.2.1 := by exact Nat.le_of_ble_eq_true rfl) : MW l G d mX12_held av σ Q := mw_vc TX12_held_ok mc_X12_held rfl hlen cs k rfl h
theorem wX12_held {l : Launch} {G : GT} {d : Nat} {Q : Po} {pc : Nat} {lv : Lv} {st : List Value} {σ : Mm} (cs : List (Nat × List Nat)) (k : Nat) (h : vc l G d mX12_held TX12_held Q cs k (drp TX12_held pc) lv st σ) (hpc : hdp (drp TX12_held pc) = pc := by rfl) : Wp l G d mX12_held pc lv st σ Q := wp_vc TX12_held_ok cs k hpc h
def TX12_paid : List In := [(0, 2, zt_iload 6), (2, 5, zt_if_ne 68), (5, 7, zt_iload 5), (7, 10, zt_if_eq 21), (10, 11, zt_aload 0), (11, 14, zt_getL 20 30), (14, 16, zt_iload 7), (16, 17, zt_iald), (17, 18, zt_i2l), (18, 21, zt_goto 67), (21, 22, zt_aload 0), (22, 25, zt_getL 20 30), (25, 27, zt_iload 7), (27, 28, zt_iald), (28, 29, zt_aload 0), (29, 32, zt_getL 20 28), (32, 34, zt_iload 7), (34, 35, zt_iald), (35, 36, zt_isub), (36, 37, zt_aload 0), (37, 40, zt_getL 20 6), (40, 42, zt_ic 13), (42, 43, zt_iald), (43, 44, zt_iadd), (44, 45, zt_i2l), (45, 46, zt_aload 2), (46, 47, zt_iload 3), (47, 48, zt_ic 1), (48, 49, zt_isub), (49, 51, zt_iload 7), (51, 53, zt_iload 8), (53, 56, zt_callSF mX12_node 2), (56, 57, zt_ic 1), (57, 58, zt_iadd), (58, 60, zt_iload 7), (60, 62, zt_iload 8), (62, 65, zt_callSF mX12_cell 4), (65, 66, zt_lald), (66, 67, zt_ladd), (67, 68, zt_lret), (68, 69, zt_aload 0), (69, 71, zt_iload 4), (71, 73, zt_iload 7), (73, 74, zt_ic 1), (74, 75, zt_iadd), (75, 78, zt_callVF mX12_due 2 20), (78, 80, zt_istoreF 9), (80, 81, zt_aload 0), (81, 82, zt_aload 1), (82, 84, zt_iload 7), (84, 86, zt_iload 8), (86, 88, zt_iload 9), (88, 89, zt_i2l), (89, 90, zt_aload 0), (90, 91, zt_aload 1), (91, 92, zt_aload 2), (92, 93, zt_iload 3), (93, 95, zt_iload 4), (95, 97, zt_iload 5), (97, 99, zt_iload 6), (99, 100, zt_ic 1), (100, 101, zt_isub), (101, 103, zt_iload 7), (103, 104, zt_ic 1), (104, 105, zt_iadd), (105, 107, zt_iload 8), (107, 108, zt_ic 1), (108, 109, zt_iadd), (109, 112, zt_callVF mX12_paid 8 20), (112, 113, zt_ladd), (113, 115, zt_iload 9), (115, 116, zt_i2l), (116, 117, zt_aload 0), (117, 118, zt_aload 1), (118, 119, zt_aload 2), (119, 120, zt_iload 3), (120, 122, zt_iload 4), (122, 124, zt_iload 5), (124, 126, zt_iload 6), (126, 127, zt_ic 1), (127, 128, zt_isub), (128, 130, zt_iload 7), (130, 131, zt_ic 1), (131, 132, zt_iadd), (132, 134, zt_iload 8), (134, 137, zt_callVF mX12_paid 8 20), (137, 138, zt_ladd), (138, 141, zt_callVF mX12_next 5 20), (141, 142, zt_lret)]
theorem TX12_paid_ok : ∀ i ∈ TX12_paid, Ent mX12_paid i := by
  refine List.forall_mem_cons.mpr ⟨ze_iload (by decide +kernel), ?_⟩
  refine List.forall_mem_cons.mpr ⟨ze_if_ne (off := 66) (by decide +kernel) (by decide), ?_⟩
  refine List.forall_mem_cons.mpr ⟨ze_iload (by decide +kernel), ?_⟩
  refine List.forall_mem_cons.mpr ⟨ze_if_eq (off := 14) (by decide +kernel) (by decide), ?_⟩
  refine List.forall_mem_cons.mpr ⟨ze_aload_n (k := 0) (by decide +kernel) rfl, ?_⟩
  refine List.forall_mem_cons.mpr ⟨ze_getL (by decide +kernel) fl_X12_56 rfl (by decide), ?_⟩
  refine List.forall_mem_cons.mpr ⟨ze_iload (by decide +kernel), ?_⟩
  refine List.forall_mem_cons.mpr ⟨ze_iald (by decide +kernel), ?_⟩
  refine List.forall_mem_cons.mpr ⟨ze_i2l (by decide +kernel), ?_⟩
  refine List.forall_mem_cons.mpr ⟨ze_goto (off := 49) (by decide +kernel) (by decide), ?_⟩
  refine List.forall_mem_cons.mpr ⟨ze_aload_n (k := 0) (by decide +kernel) rfl, ?_⟩
  refine List.forall_mem_cons.mpr ⟨ze_getL (by decide +kernel) fl_X12_56 rfl (by decide), ?_⟩
  refine List.forall_mem_cons.mpr ⟨ze_iload (by decide +kernel), ?_⟩
  refine List.forall_mem_cons.mpr ⟨ze_iald (by decide +kernel), ?_⟩
  refine List.forall_mem_cons.mpr ⟨ze_aload_n (k := 0) (by decide +kernel) rfl, ?_⟩
  refine List.forall_mem_cons.mpr ⟨ze_getL (by decide +kernel) fl_X12_50 rfl (by decide), ?_⟩
  refine List.forall_mem_cons.mpr ⟨ze_iload (by decide +kernel), ?_⟩
  refine List.forall_mem_cons.mpr ⟨ze_iald (by decide +kernel), ?_⟩
  refine List.forall_mem_cons.mpr ⟨ze_isub (by decide +kernel), ?_⟩
  refine List.forall_mem_cons.mpr ⟨ze_aload_n (k := 0) (by decide +kernel) rfl, ?_⟩
  refine List.forall_mem_cons.mpr ⟨ze_getL (by decide +kernel) fl_X12_17 rfl (by decide), ?_⟩
  refine List.forall_mem_cons.mpr ⟨ze_bipush (n := 13) (by decide +kernel) (by decide), ?_⟩
  refine List.forall_mem_cons.mpr ⟨ze_iald (by decide +kernel), ?_⟩
  refine List.forall_mem_cons.mpr ⟨ze_iadd (by decide +kernel), ?_⟩
  refine List.forall_mem_cons.mpr ⟨ze_i2l (by decide +kernel), ?_⟩
  refine List.forall_mem_cons.mpr ⟨ze_aload_n (k := 2) (by decide +kernel) rfl, ?_⟩
  refine List.forall_mem_cons.mpr ⟨ze_iload_n (k := 3) (by decide +kernel) rfl, ?_⟩
  refine List.forall_mem_cons.mpr ⟨ze_iconst (n := 1) (by decide +kernel) (by decide), ?_⟩
  refine List.forall_mem_cons.mpr ⟨ze_isub (by decide +kernel), ?_⟩
  refine List.forall_mem_cons.mpr ⟨ze_iload (by decide +kernel), ?_⟩
  refine List.forall_mem_cons.mpr ⟨ze_iload (by decide +kernel), ?_⟩
  refine List.forall_mem_cons.mpr ⟨ze_callSF (idx := 210) (by decide +kernel) ml_X12_210 ms_X12_node, ?_⟩
  refine List.forall_mem_cons.mpr ⟨ze_iconst (n := 1) (by decide +kernel) (by decide), ?_⟩
  refine List.forall_mem_cons.mpr ⟨ze_iadd (by decide +kernel), ?_⟩
  refine List.forall_mem_cons.mpr ⟨ze_iload (by decide +kernel), ?_⟩
  refine List.forall_mem_cons.mpr ⟨ze_iload (by decide +kernel), ?_⟩
  refine List.forall_mem_cons.mpr ⟨ze_callSF (idx := 246) (by decide +kernel) ml_X12_246 ms_X12_cell, ?_⟩
  refine List.forall_mem_cons.mpr ⟨ze_lald (by decide +kernel), ?_⟩
  refine List.forall_mem_cons.mpr ⟨ze_ladd (by decide +kernel), ?_⟩
  refine List.forall_mem_cons.mpr ⟨ze_lret (by decide +kernel) rfl, ?_⟩
  refine List.forall_mem_cons.mpr ⟨ze_aload_n (k := 0) (by decide +kernel) rfl, ?_⟩
  refine List.forall_mem_cons.mpr ⟨ze_iload (by decide +kernel), ?_⟩
  refine List.forall_mem_cons.mpr ⟨ze_iload (by decide +kernel), ?_⟩
  refine List.forall_mem_cons.mpr ⟨ze_iconst (n := 1) (by decide +kernel) (by decide), ?_⟩
  refine List.forall_mem_cons.mpr ⟨ze_iadd (by decide +kernel), ?_⟩
  refine List.forall_mem_cons.mpr ⟨ze_callVF (idx := 250) (by decide +kernel) ml_X12_250 mv_X12_due rfl, ?_⟩
  refine List.forall_mem_cons.mpr ⟨ze_istoreF (by decide +kernel) (by decide), ?_⟩
  refine List.forall_mem_cons.mpr ⟨ze_aload_n (k := 0) (by decide +kernel) rfl, ?_⟩
  refine List.forall_mem_cons.mpr ⟨ze_aload_n (k := 1) (by decide +kernel) rfl, ?_⟩
  refine List.forall_mem_cons.mpr ⟨ze_iload (by decide +kernel), ?_⟩
  refine List.forall_mem_cons.mpr ⟨ze_iload (by decide +kernel), ?_⟩
  refine List.forall_mem_cons.mpr ⟨ze_iload (by decide +kernel), ?_⟩
  refine List.forall_mem_cons.mpr ⟨ze_i2l (by decide +kernel), ?_⟩
  refine List.forall_mem_cons.mpr ⟨ze_aload_n (k := 0) (by decide +kernel) rfl, ?_⟩
  refine List.forall_mem_cons.mpr ⟨ze_aload_n (k := 1) (by decide +kernel) rfl, ?_⟩
  refine List.forall_mem_cons.mpr ⟨ze_aload_n (k := 2) (by decide +kernel) rfl, ?_⟩
  refine List.forall_mem_cons.mpr ⟨ze_iload_n (k := 3) (by decide +kernel) rfl, ?_⟩
  refine List.forall_mem_cons.mpr ⟨ze_iload (by decide +kernel), ?_⟩
  refine List.forall_mem_cons.mpr ⟨ze_iload (by decide +kernel), ?_⟩
  refine List.forall_mem_cons.mpr ⟨ze_iload (by decide +kernel), ?_⟩
  refine List.forall_mem_cons.mpr ⟨ze_iconst (n := 1) (by decide +kernel) (by decide), ?_⟩
  refine List.forall_mem_cons.mpr ⟨ze_isub (by decide +kernel), ?_⟩
  refine List.forall_mem_cons.mpr ⟨ze_iload (by decide +kernel), ?_⟩
  refine List.forall_mem_cons.mpr ⟨ze_iconst (n := 1) (by decide +kernel) (by decide), ?_⟩
  refine List.forall_mem_cons.mpr ⟨ze_iadd (by decide +kernel), ?_⟩
  refine List.forall_mem_cons.mpr ⟨ze_iload (by decide +kernel), ?_⟩
  refine List.forall_mem_cons.mpr ⟨ze_iconst (n := 1) (by decide +kernel) (by decide), ?_⟩
  refine List.forall_mem_cons.mpr ⟨ze_iadd (by decide +kernel), ?_⟩
  refine List.forall_mem_cons.mpr ⟨ze_callVF (idx := 261) (by decide +kernel) ml_X12_261 mv_X12_paid rfl, ?_⟩
  refine List.forall_mem_cons.mpr ⟨ze_ladd (by decide +kernel), ?_⟩
  refine List.forall_mem_cons.mpr ⟨ze_iload (by decide +kernel), ?_⟩
  refine List.forall_mem_cons.mpr ⟨ze_i2l (by decide +kernel), ?_⟩
  refine List.forall_mem_cons.mpr ⟨ze_aload_n (k := 0) (by decide +kernel) rfl, ?_⟩
  refine List.forall_mem_cons.mpr ⟨ze_aload_n (k := 1) (by decide +kernel) rfl, ?_⟩
  refine List.forall_mem_cons.mpr ⟨ze_aload_n (k := 2) (by decide +kernel) rfl, ?_⟩
  refine List.forall_mem_cons.mpr ⟨ze_iload_n (k := 3) (by decide +kernel) rfl, ?_⟩
  refine List.forall_mem_cons.mpr ⟨ze_iload (by decide +kernel), ?_⟩
  refine List.forall_mem_cons.mpr ⟨ze_iload (by decide +kernel), ?_⟩
  refine List.forall_mem_cons.mpr ⟨ze_iload (by decide +kernel), ?_⟩
  refine List.forall_mem_cons.mpr ⟨ze_iconst (n := 1) (by decide +kernel) (by decide), ?_⟩
  refine List.forall_mem_cons.mpr ⟨ze_isub (by decide +kernel), ?_⟩
  refine List.forall_mem_cons.mpr ⟨ze_iload (by decide +kernel), ?_⟩
  refine List.forall_mem_cons.mpr ⟨ze_iconst (n := 1) (by decide +kernel) (by decide), ?_⟩
  refine List.forall_mem_cons.mpr ⟨ze_iadd (by decide +kernel), ?_⟩
  refine List.forall_mem_cons.mpr ⟨ze_iload (by decide +kernel), ?_⟩
  refine List.forall_mem_cons.mpr ⟨ze_callVF (idx := 261) (by decide +kernel) ml_X12_261 mv_X12_paid rfl, ?_⟩
  refine List.forall_mem_cons.mpr ⟨ze_ladd (by decide +kernel), ?_⟩
  refine List.forall_mem_cons.mpr ⟨ze_callVF (idx := 257) (by decide +kernel) ml_X12_257 mv_X12_next rfl, ?_⟩
  refine List.forall_mem_cons.mpr ⟨ze_lret (by decide +kernel) rfl, ?_⟩
  exact fun _ h => absurd h List.not_mem_nil
theorem vX12_paid {l : Launch} {G : GT} {d : Nat} {av : List Value} {Q : Po} {σ : Mm} (cs : List (Nat × List Nat)) (k : Nat) (h : vc l G d mX12_paid TX12_paid Q cs k TX12_paid (lv_args 0 av) [] σ) (hlen : (lg_sl av).length ≤ mX12_paid.2.2.1 := by exact Nat.le_of_ble_eq_true rfl) : MW l G d mX12_paid av σ Q := mw_vc TX12_paid_ok mc_X12_paid rfl hlen cs k rfl h
theorem wX12_paid {l : Launch} {G : GT} {d : Nat} {Q : Po} {pc : Nat} {lv : Lv} {st : List Value} {σ : Mm} (cs : List (Nat × List Nat)) (k : Nat) (h : vc l G d mX12_paid TX12_paid Q cs k (drp TX12_paid pc) lv st σ) (hpc : hdp (drp TX12_paid pc) = pc := by rfl) : Wp l G d mX12_paid pc lv st σ Q := wp_vc TX12_paid_ok cs k hpc h
def TX12_mayEnd : List In := [(0, 1, zt_iload 1), (1, 2, zt_aload 0), (2, 5, zt_getL 20 6), (5, 7, zt_ic 9), (7, 8, zt_iald), (8, 11, zt_icmp_lt 33), (11, 12, zt_iload 1), (12, 13, zt_aload 0), (13, 16, zt_getL 20 6), (16, 18, zt_ic 10), (18, 19, zt_iald), (19, 20, zt_iadd), (20, 21, zt_aload 0), (21, 24, zt_getL 20 6), (24, 25, zt_ic 1), (25, 26, zt_iald), (26, 29, zt_icmp_ge 33), (29, 30, zt_ic 1), (30, 33, zt_goto 34), (33, 34, zt_ic 0), (34, 35, zt_zret)]
theorem TX12_mayEnd_ok : ∀ i ∈ TX12_mayEnd, Ent mX12_mayEnd i := by
  refine List.forall_mem_cons.mpr ⟨ze_iload_n (k := 1) (by decide +kernel) rfl, ?_⟩
  refine List.forall_mem_cons.mpr ⟨ze_aload_n (k := 0) (by decide +kernel) rfl, ?_⟩
  refine List.forall_mem_cons.mpr ⟨ze_getL (by decide +kernel) fl_X12_17 rfl (by decide), ?_⟩
  refine List.forall_mem_cons.mpr ⟨ze_bipush (n := 9) (by decide +kernel) (by decide), ?_⟩
  refine List.forall_mem_cons.mpr ⟨ze_iald (by decide +kernel), ?_⟩
  refine List.forall_mem_cons.mpr ⟨ze_icmp_lt (off := 25) (by decide +kernel) (by decide), ?_⟩
  refine List.forall_mem_cons.mpr ⟨ze_iload_n (k := 1) (by decide +kernel) rfl, ?_⟩
  refine List.forall_mem_cons.mpr ⟨ze_aload_n (k := 0) (by decide +kernel) rfl, ?_⟩
  refine List.forall_mem_cons.mpr ⟨ze_getL (by decide +kernel) fl_X12_17 rfl (by decide), ?_⟩
  refine List.forall_mem_cons.mpr ⟨ze_bipush (n := 10) (by decide +kernel) (by decide), ?_⟩
  refine List.forall_mem_cons.mpr ⟨ze_iald (by decide +kernel), ?_⟩
  refine List.forall_mem_cons.mpr ⟨ze_iadd (by decide +kernel), ?_⟩
  refine List.forall_mem_cons.mpr ⟨ze_aload_n (k := 0) (by decide +kernel) rfl, ?_⟩
  refine List.forall_mem_cons.mpr ⟨ze_getL (by decide +kernel) fl_X12_17 rfl (by decide), ?_⟩
  refine List.forall_mem_cons.mpr ⟨ze_iconst (n := 1) (by decide +kernel) (by decide), ?_⟩
  refine List.forall_mem_cons.mpr ⟨ze_iald (by decide +kernel), ?_⟩
  refine List.forall_mem_cons.mpr ⟨ze_icmp_ge (off := 7) (by decide +kernel) (by decide), ?_⟩
  refine List.forall_mem_cons.mpr ⟨ze_iconst (n := 1) (by decide +kernel) (by decide), ?_⟩
  refine List.forall_mem_cons.mpr ⟨ze_goto (off := 4) (by decide +kernel) (by decide), ?_⟩
  refine List.forall_mem_cons.mpr ⟨ze_iconst (n := 0) (by decide +kernel) (by decide), ?_⟩
  refine List.forall_mem_cons.mpr ⟨ze_zret (by decide +kernel) rfl, ?_⟩
  exact fun _ h => absurd h List.not_mem_nil
theorem vX12_mayEnd {l : Launch} {G : GT} {d : Nat} {av : List Value} {Q : Po} {σ : Mm} (cs : List (Nat × List Nat)) (k : Nat) (h : vc l G d mX12_mayEnd TX12_mayEnd Q cs k TX12_mayEnd (lv_args 0 av) [] σ) (hlen : (lg_sl av).length ≤ mX12_mayEnd.2.2.1 := by exact Nat.le_of_ble_eq_true rfl) : MW l G d mX12_mayEnd av σ Q := mw_vc TX12_mayEnd_ok mc_X12_mayEnd rfl hlen cs k rfl h
theorem wX12_mayEnd {l : Launch} {G : GT} {d : Nat} {Q : Po} {pc : Nat} {lv : Lv} {st : List Value} {σ : Mm} (cs : List (Nat × List Nat)) (k : Nat) (h : vc l G d mX12_mayEnd TX12_mayEnd Q cs k (drp TX12_mayEnd pc) lv st σ) (hpc : hdp (drp TX12_mayEnd pc) = pc := by rfl) : Wp l G d mX12_mayEnd pc lv st σ Q := wp_vc TX12_mayEnd_ok cs k hpc h
def TX12_may : List In := [(0, 1, zt_iload 1), (1, 4, zt_if_eq 21), (4, 5, zt_aload 0), (5, 6, zt_iload 3), (6, 9, zt_callVF mX12_mayEnd 1 20), (9, 12, zt_if_eq 25), (12, 13, zt_iload 1), (13, 14, zt_ic 1), (14, 17, zt_icmp_eq 21), (17, 18, zt_iload 2), (18, 21, zt_if_le 25), (21, 22, zt_ic 1), (22, 25, zt_goto 26), (25, 26, zt_ic 0), (26, 27, zt_zret)]
theorem TX12_may_ok : ∀ i ∈ TX12_may, Ent mX12_may i := by
  refine List.forall_mem_cons.mpr ⟨ze_iload_n (k := 1) (by decide +kernel) rfl, ?_⟩
  refine List.forall_mem_cons.mpr ⟨ze_if_eq (off := 20) (by decide +kernel) (by decide), ?_⟩
  refine List.forall_mem_cons.mpr ⟨ze_aload_n (k := 0) (by decide +kernel) rfl, ?_⟩
  refine List.forall_mem_cons.mpr ⟨ze_iload_n (k := 3) (by decide +kernel) rfl, ?_⟩
  refine List.forall_mem_cons.mpr ⟨ze_callVF (idx := 265) (by decide +kernel) ml_X12_265 mv_X12_mayEnd rfl, ?_⟩
  refine List.forall_mem_cons.mpr ⟨ze_if_eq (off := 16) (by decide +kernel) (by decide), ?_⟩
  refine List.forall_mem_cons.mpr ⟨ze_iload_n (k := 1) (by decide +kernel) rfl, ?_⟩
  refine List.forall_mem_cons.mpr ⟨ze_iconst (n := 1) (by decide +kernel) (by decide), ?_⟩
  refine List.forall_mem_cons.mpr ⟨ze_icmp_eq (off := 7) (by decide +kernel) (by decide), ?_⟩
  refine List.forall_mem_cons.mpr ⟨ze_iload_n (k := 2) (by decide +kernel) rfl, ?_⟩
  refine List.forall_mem_cons.mpr ⟨ze_if_le (off := 7) (by decide +kernel) (by decide), ?_⟩
  refine List.forall_mem_cons.mpr ⟨ze_iconst (n := 1) (by decide +kernel) (by decide), ?_⟩
  refine List.forall_mem_cons.mpr ⟨ze_goto (off := 4) (by decide +kernel) (by decide), ?_⟩
  refine List.forall_mem_cons.mpr ⟨ze_iconst (n := 0) (by decide +kernel) (by decide), ?_⟩
  refine List.forall_mem_cons.mpr ⟨ze_zret (by decide +kernel) rfl, ?_⟩
  exact fun _ h => absurd h List.not_mem_nil
theorem vX12_may {l : Launch} {G : GT} {d : Nat} {av : List Value} {Q : Po} {σ : Mm} (cs : List (Nat × List Nat)) (k : Nat) (h : vc l G d mX12_may TX12_may Q cs k TX12_may (lv_args 0 av) [] σ) (hlen : (lg_sl av).length ≤ mX12_may.2.2.1 := by exact Nat.le_of_ble_eq_true rfl) : MW l G d mX12_may av σ Q := mw_vc TX12_may_ok mc_X12_may rfl hlen cs k rfl h
theorem wX12_may {l : Launch} {G : GT} {d : Nat} {Q : Po} {pc : Nat} {lv : Lv} {st : List Value} {σ : Mm} (cs : List (Nat × List Nat)) (k : Nat) (h : vc l G d mX12_may TX12_may Q cs k (drp TX12_may pc) lv st σ) (hpc : hdp (drp TX12_may pc) = pc := by rfl) : Wp l G d mX12_may pc lv st σ Q := wp_vc TX12_may_ok cs k hpc h
def TX12_costBy : List In := [(0, 1, zt_iload 3), (1, 4, zt_if_ne 23), (4, 5, zt_aload 0), (5, 6, zt_aload 1), (6, 7, zt_aload 2), (7, 9, zt_iload 4), (9, 11, zt_iload 5), (11, 13, zt_iload 6), (13, 15, zt_iload 7), (15, 17, zt_iload 8), (17, 20, zt_callVF mX12_held 7 20), (20, 23, zt_goto 54), (23, 24, zt_aload 0), (24, 25, zt_aload 1), (25, 26, zt_aload 2), (26, 28, zt_iload 4), (28, 30, zt_iload 6), (30, 31, zt_iload 3), (31, 32, zt_ic 1), (32, 35, zt_icmp_ne 39), (35, 36, zt_ic 1), (36, 39, zt_goto 40), (39, 40, zt_ic 0), (40, 41, zt_aload 0), (41, 44, zt_getL 20 6), (44, 46, zt_ic 10), (46, 47, zt_iald), (47, 49, zt_iload 7), (49, 51, zt_iload 8), (51, 54, zt_callVF mX12_paid 8 20), (54, 55, zt_lret)]
theorem TX12_costBy_ok : ∀ i ∈ TX12_costBy, Ent mX12_costBy i := by
  refine List.forall_mem_cons.mpr ⟨ze_iload_n (k := 3) (by decide +kernel) rfl, ?_⟩
  refine List.forall_mem_cons.mpr ⟨ze_if_ne (off := 22) (by decide +kernel) (by decide), ?_⟩
  refine List.forall_mem_cons.mpr ⟨ze_aload_n (k := 0) (by decide +kernel) rfl, ?_⟩
  refine List.forall_mem_cons.mpr ⟨ze_aload_n (k := 1) (by decide +kernel) rfl, ?_⟩
  refine List.forall_mem_cons.mpr ⟨ze_aload_n (k := 2) (by decide +kernel) rfl, ?_⟩
  refine List.forall_mem_cons.mpr ⟨ze_iload (by decide +kernel), ?_⟩
  refine List.forall_mem_cons.mpr ⟨ze_iload (by decide +kernel), ?_⟩
  refine List.forall_mem_cons.mpr ⟨ze_iload (by decide +kernel), ?_⟩
  refine List.forall_mem_cons.mpr ⟨ze_iload (by decide +kernel), ?_⟩
  refine List.forall_mem_cons.mpr ⟨ze_iload (by decide +kernel), ?_⟩
  refine List.forall_mem_cons.mpr ⟨ze_callVF (idx := 269) (by decide +kernel) ml_X12_269 mv_X12_held rfl, ?_⟩
  refine List.forall_mem_cons.mpr ⟨ze_goto (off := 34) (by decide +kernel) (by decide), ?_⟩
  refine List.forall_mem_cons.mpr ⟨ze_aload_n (k := 0) (by decide +kernel) rfl, ?_⟩
  refine List.forall_mem_cons.mpr ⟨ze_aload_n (k := 1) (by decide +kernel) rfl, ?_⟩
  refine List.forall_mem_cons.mpr ⟨ze_aload_n (k := 2) (by decide +kernel) rfl, ?_⟩
  refine List.forall_mem_cons.mpr ⟨ze_iload (by decide +kernel), ?_⟩
  refine List.forall_mem_cons.mpr ⟨ze_iload (by decide +kernel), ?_⟩
  refine List.forall_mem_cons.mpr ⟨ze_iload_n (k := 3) (by decide +kernel) rfl, ?_⟩
  refine List.forall_mem_cons.mpr ⟨ze_iconst (n := 1) (by decide +kernel) (by decide), ?_⟩
  refine List.forall_mem_cons.mpr ⟨ze_icmp_ne (off := 7) (by decide +kernel) (by decide), ?_⟩
  refine List.forall_mem_cons.mpr ⟨ze_iconst (n := 1) (by decide +kernel) (by decide), ?_⟩
  refine List.forall_mem_cons.mpr ⟨ze_goto (off := 4) (by decide +kernel) (by decide), ?_⟩
  refine List.forall_mem_cons.mpr ⟨ze_iconst (n := 0) (by decide +kernel) (by decide), ?_⟩
  refine List.forall_mem_cons.mpr ⟨ze_aload_n (k := 0) (by decide +kernel) rfl, ?_⟩
  refine List.forall_mem_cons.mpr ⟨ze_getL (by decide +kernel) fl_X12_17 rfl (by decide), ?_⟩
  refine List.forall_mem_cons.mpr ⟨ze_bipush (n := 10) (by decide +kernel) (by decide), ?_⟩
  refine List.forall_mem_cons.mpr ⟨ze_iald (by decide +kernel), ?_⟩
  refine List.forall_mem_cons.mpr ⟨ze_iload (by decide +kernel), ?_⟩
  refine List.forall_mem_cons.mpr ⟨ze_iload (by decide +kernel), ?_⟩
  refine List.forall_mem_cons.mpr ⟨ze_callVF (idx := 261) (by decide +kernel) ml_X12_261 mv_X12_paid rfl, ?_⟩
  refine List.forall_mem_cons.mpr ⟨ze_lret (by decide +kernel) rfl, ?_⟩
  exact fun _ h => absurd h List.not_mem_nil
theorem vX12_costBy {l : Launch} {G : GT} {d : Nat} {av : List Value} {Q : Po} {σ : Mm} (cs : List (Nat × List Nat)) (k : Nat) (h : vc l G d mX12_costBy TX12_costBy Q cs k TX12_costBy (lv_args 0 av) [] σ) (hlen : (lg_sl av).length ≤ mX12_costBy.2.2.1 := by exact Nat.le_of_ble_eq_true rfl) : MW l G d mX12_costBy av σ Q := mw_vc TX12_costBy_ok mc_X12_costBy rfl hlen cs k rfl h
theorem wX12_costBy {l : Launch} {G : GT} {d : Nat} {Q : Po} {pc : Nat} {lv : Lv} {st : List Value} {σ : Mm} (cs : List (Nat × List Nat)) (k : Nat) (h : vc l G d mX12_costBy TX12_costBy Q cs k (drp TX12_costBy pc) lv st σ) (hpc : hdp (drp TX12_costBy pc) = pc := by rfl) : Wp l G d mX12_costBy pc lv st σ Q := wp_vc TX12_costBy_ok cs k hpc h
def TX12_bestDeed : List In := [(0, 1, zt_ic 0), (1, 3, zt_istoreF 8), (3, 4, zt_aload 0), (4, 5, zt_aload 1), (5, 6, zt_aload 2), (6, 7, zt_ic 0), (7, 8, zt_iload 3), (8, 10, zt_iload 4), (10, 12, zt_iload 5), (12, 14, zt_iload 6), (14, 16, zt_iload 7), (16, 19, zt_callVF mX12_costBy 8 20), (19, 21, zt_lstoreF 9), (21, 22, zt_ic 1), (22, 24, zt_istoreF 11), (24, 26, zt_iload 11), (26, 27, zt_ic 2), (27, 30, zt_icmp_gt 89), (30, 31, zt_aload 0), (31, 33, zt_iload 11), (33, 34, zt_iload 3), (34, 36, zt_iload 6), (36, 39, zt_callVF mX12_may 3 20), (39, 42, zt_if_ne 45), (42, 45, zt_goto 83), (45, 46, zt_aload 0), (46, 47, zt_aload 1), (47, 48, zt_aload 2), (48, 50, zt_iload 11), (50, 51, zt_iload 3), (51, 53, zt_iload 4), (53, 55, zt_iload 5), (55, 57, zt_iload 6), (57, 59, zt_iload 7), (59, 62, zt_callVF mX12_costBy 8 20), (62, 64, zt_lstoreF 12), (64, 66, zt_lload 12), (66, 68, zt_lload 9), (68, 69, zt_lcmp), (69, 72, zt_if_lt 75), (72, 75, zt_goto 83), (75, 77, zt_iload 11), (77, 79, zt_istoreF 8), (79, 81, zt_lload 12), (81, 83, zt_lstoreF 9), (83, 86, zt_iincF 11 1), (86, 89, zt_goto 24), (89, 91, zt_iload 8), (91, 92, zt_iret)]
theorem TX12_bestDeed_ok : ∀ i ∈ TX12_bestDeed, Ent mX12_bestDeed i := by
  refine List.forall_mem_cons.mpr ⟨ze_iconst (n := 0) (by decide +kernel) (by decide), ?_⟩
  refine List.forall_mem_cons.mpr ⟨ze_istoreF (by decide +kernel) (by decide), ?_⟩
  refine List.forall_mem_cons.mpr ⟨ze_aload_n (k := 0) (by decide +kernel) rfl, ?_⟩
  refine List.forall_mem_cons.mpr ⟨ze_aload_n (k := 1) (by decide +kernel) rfl, ?_⟩
  refine List.forall_mem_cons.mpr ⟨ze_aload_n (k := 2) (by decide +kernel) rfl, ?_⟩
  refine List.forall_mem_cons.mpr ⟨ze_iconst (n := 0) (by decide +kernel) (by decide), ?_⟩
  refine List.forall_mem_cons.mpr ⟨ze_iload_n (k := 3) (by decide +kernel) rfl, ?_⟩
  refine List.forall_mem_cons.mpr ⟨ze_iload (by decide +kernel), ?_⟩
  refine List.forall_mem_cons.mpr ⟨ze_iload (by decide +kernel), ?_⟩
  refine List.forall_mem_cons.mpr ⟨ze_iload (by decide +kernel), ?_⟩
  refine List.forall_mem_cons.mpr ⟨ze_iload (by decide +kernel), ?_⟩
  refine List.forall_mem_cons.mpr ⟨ze_callVF (idx := 273) (by decide +kernel) ml_X12_273 mv_X12_costBy rfl, ?_⟩
  refine List.forall_mem_cons.mpr ⟨ze_lstoreF (by decide +kernel) (by decide), ?_⟩
  refine List.forall_mem_cons.mpr ⟨ze_iconst (n := 1) (by decide +kernel) (by decide), ?_⟩
  refine List.forall_mem_cons.mpr ⟨ze_istoreF (by decide +kernel) (by decide), ?_⟩
  refine List.forall_mem_cons.mpr ⟨ze_iload (by decide +kernel), ?_⟩
  refine List.forall_mem_cons.mpr ⟨ze_iconst (n := 2) (by decide +kernel) (by decide), ?_⟩
  refine List.forall_mem_cons.mpr ⟨ze_icmp_gt (off := 62) (by decide +kernel) (by decide), ?_⟩
  refine List.forall_mem_cons.mpr ⟨ze_aload_n (k := 0) (by decide +kernel) rfl, ?_⟩
  refine List.forall_mem_cons.mpr ⟨ze_iload (by decide +kernel), ?_⟩
  refine List.forall_mem_cons.mpr ⟨ze_iload_n (k := 3) (by decide +kernel) rfl, ?_⟩
  refine List.forall_mem_cons.mpr ⟨ze_iload (by decide +kernel), ?_⟩
  refine List.forall_mem_cons.mpr ⟨ze_callVF (idx := 277) (by decide +kernel) ml_X12_277 mv_X12_may rfl, ?_⟩
  refine List.forall_mem_cons.mpr ⟨ze_if_ne (off := 6) (by decide +kernel) (by decide), ?_⟩
  refine List.forall_mem_cons.mpr ⟨ze_goto (off := 41) (by decide +kernel) (by decide), ?_⟩
  refine List.forall_mem_cons.mpr ⟨ze_aload_n (k := 0) (by decide +kernel) rfl, ?_⟩
  refine List.forall_mem_cons.mpr ⟨ze_aload_n (k := 1) (by decide +kernel) rfl, ?_⟩
  refine List.forall_mem_cons.mpr ⟨ze_aload_n (k := 2) (by decide +kernel) rfl, ?_⟩
  refine List.forall_mem_cons.mpr ⟨ze_iload (by decide +kernel), ?_⟩
  refine List.forall_mem_cons.mpr ⟨ze_iload_n (k := 3) (by decide +kernel) rfl, ?_⟩
  refine List.forall_mem_cons.mpr ⟨ze_iload (by decide +kernel), ?_⟩
  refine List.forall_mem_cons.mpr ⟨ze_iload (by decide +kernel), ?_⟩
  refine List.forall_mem_cons.mpr ⟨ze_iload (by decide +kernel), ?_⟩
  refine List.forall_mem_cons.mpr ⟨ze_iload (by decide +kernel), ?_⟩
  refine List.forall_mem_cons.mpr ⟨ze_callVF (idx := 273) (by decide +kernel) ml_X12_273 mv_X12_costBy rfl, ?_⟩
  refine List.forall_mem_cons.mpr ⟨ze_lstoreF (by decide +kernel) (by decide), ?_⟩
  refine List.forall_mem_cons.mpr ⟨ze_lload (by decide +kernel), ?_⟩
  refine List.forall_mem_cons.mpr ⟨ze_lload (by decide +kernel), ?_⟩
  refine List.forall_mem_cons.mpr ⟨ze_lcmp (by decide +kernel), ?_⟩
  refine List.forall_mem_cons.mpr ⟨ze_if_lt (off := 6) (by decide +kernel) (by decide), ?_⟩
  refine List.forall_mem_cons.mpr ⟨ze_goto (off := 11) (by decide +kernel) (by decide), ?_⟩
  refine List.forall_mem_cons.mpr ⟨ze_iload (by decide +kernel), ?_⟩
  refine List.forall_mem_cons.mpr ⟨ze_istoreF (by decide +kernel) (by decide), ?_⟩
  refine List.forall_mem_cons.mpr ⟨ze_lload (by decide +kernel), ?_⟩
  refine List.forall_mem_cons.mpr ⟨ze_lstoreF (by decide +kernel) (by decide), ?_⟩
  refine List.forall_mem_cons.mpr ⟨ze_iincF (n := 1) (by decide +kernel) (by decide) (by decide), ?_⟩
  refine List.forall_mem_cons.mpr ⟨ze_goto (off := -62) (by decide +kernel) (by decide), ?_⟩
  refine List.forall_mem_cons.mpr ⟨ze_iload (by decide +kernel), ?_⟩
  refine List.forall_mem_cons.mpr ⟨ze_iret (by decide +kernel) rfl, ?_⟩
  exact fun _ h => absurd h List.not_mem_nil
theorem vX12_bestDeed {l : Launch} {G : GT} {d : Nat} {av : List Value} {Q : Po} {σ : Mm} (cs : List (Nat × List Nat)) (k : Nat) (h : vc l G d mX12_bestDeed TX12_bestDeed Q cs k TX12_bestDeed (lv_args 0 av) [] σ) (hlen : (lg_sl av).length ≤ mX12_bestDeed.2.2.1 := by exact Nat.le_of_ble_eq_true rfl) : MW l G d mX12_bestDeed av σ Q := mw_vc TX12_bestDeed_ok mc_X12_bestDeed rfl hlen cs k rfl h
theorem wX12_bestDeed {l : Launch} {G : GT} {d : Nat} {Q : Po} {pc : Nat} {lv : Lv} {st : List Value} {σ : Mm} (cs : List (Nat × List Nat)) (k : Nat) (h : vc l G d mX12_bestDeed TX12_bestDeed Q cs k (drp TX12_bestDeed pc) lv st σ) (hpc : hdp (drp TX12_bestDeed pc) = pc := by rfl) : Wp l G d mX12_bestDeed pc lv st σ Q := wp_vc TX12_bestDeed_ok cs k hpc h
def TX12_policyDeed : List In := [(0, 1, zt_aload 1), (1, 4, zt_ic 169), (4, 5, zt_iload 3), (5, 7, zt_iload 4), (7, 10, zt_callSF mX12_node 2), (10, 11, zt_iadd), (11, 12, zt_iald), (12, 14, zt_istoreF 5), (14, 15, zt_aload 0), (15, 17, zt_iload 5), (17, 18, zt_iload 2), (18, 19, zt_iload 3), (19, 22, zt_callVF mX12_may 3 20), (22, 25, zt_if_eq 30), (25, 27, zt_iload 5), (27, 30, zt_goto 31), (30, 31, zt_ic 0), (31, 32, zt_iret)]
theorem TX12_policyDeed_ok : ∀ i ∈ TX12_policyDeed, Ent mX12_policyDeed i := by
  refine List.forall_mem_cons.mpr ⟨ze_aload_n (k := 1) (by decide +kernel) rfl, ?_⟩
  refine List.forall_mem_cons.mpr ⟨ze_sipush (n := 169) (by decide +kernel) (by decide), ?_⟩
  refine List.forall_mem_cons.mpr ⟨ze_iload_n (k := 3) (by decide +kernel) rfl, ?_⟩
  refine List.forall_mem_cons.mpr ⟨ze_iload (by decide +kernel), ?_⟩
  refine List.forall_mem_cons.mpr ⟨ze_callSF (idx := 210) (by decide +kernel) ml_X12_210 ms_X12_node, ?_⟩
  refine List.forall_mem_cons.mpr ⟨ze_iadd (by decide +kernel), ?_⟩
  refine List.forall_mem_cons.mpr ⟨ze_iald (by decide +kernel), ?_⟩
  refine List.forall_mem_cons.mpr ⟨ze_istoreF (by decide +kernel) (by decide), ?_⟩
  refine List.forall_mem_cons.mpr ⟨ze_aload_n (k := 0) (by decide +kernel) rfl, ?_⟩
  refine List.forall_mem_cons.mpr ⟨ze_iload (by decide +kernel), ?_⟩
  refine List.forall_mem_cons.mpr ⟨ze_iload_n (k := 2) (by decide +kernel) rfl, ?_⟩
  refine List.forall_mem_cons.mpr ⟨ze_iload_n (k := 3) (by decide +kernel) rfl, ?_⟩
  refine List.forall_mem_cons.mpr ⟨ze_callVF (idx := 277) (by decide +kernel) ml_X12_277 mv_X12_may rfl, ?_⟩
  refine List.forall_mem_cons.mpr ⟨ze_if_eq (off := 8) (by decide +kernel) (by decide), ?_⟩
  refine List.forall_mem_cons.mpr ⟨ze_iload (by decide +kernel), ?_⟩
  refine List.forall_mem_cons.mpr ⟨ze_goto (off := 4) (by decide +kernel) (by decide), ?_⟩
  refine List.forall_mem_cons.mpr ⟨ze_iconst (n := 0) (by decide +kernel) (by decide), ?_⟩
  refine List.forall_mem_cons.mpr ⟨ze_iret (by decide +kernel) rfl, ?_⟩
  exact fun _ h => absurd h List.not_mem_nil
theorem vX12_policyDeed {l : Launch} {G : GT} {d : Nat} {av : List Value} {Q : Po} {σ : Mm} (cs : List (Nat × List Nat)) (k : Nat) (h : vc l G d mX12_policyDeed TX12_policyDeed Q cs k TX12_policyDeed (lv_args 0 av) [] σ) (hlen : (lg_sl av).length ≤ mX12_policyDeed.2.2.1 := by exact Nat.le_of_ble_eq_true rfl) : MW l G d mX12_policyDeed av σ Q := mw_vc TX12_policyDeed_ok mc_X12_policyDeed rfl hlen cs k rfl h
theorem wX12_policyDeed {l : Launch} {G : GT} {d : Nat} {Q : Po} {pc : Nat} {lv : Lv} {st : List Value} {σ : Mm} (cs : List (Nat × List Nat)) (k : Nat) (h : vc l G d mX12_policyDeed TX12_policyDeed Q cs k (drp TX12_policyDeed pc) lv st σ) (hpc : hdp (drp TX12_policyDeed pc) = pc := by rfl) : Wp l G d mX12_policyDeed pc lv st σ Q := wp_vc TX12_policyDeed_ok cs k hpc h
def TX12_laysBy : List In := [(0, 1, zt_aload 0), (1, 4, zt_getL 20 6), (4, 5, zt_ic 1), (5, 6, zt_iald), (6, 7, zt_ic 1), (7, 8, zt_isub), (8, 10, zt_istoreF 8), (10, 12, zt_iload 8), (12, 14, zt_iload 7), (14, 17, zt_icmp_lt 106), (17, 18, zt_ic 0), (18, 20, zt_istoreF 9), (20, 22, zt_iload 9), (22, 24, zt_iload 8), (24, 27, zt_icmp_gt 100), (27, 28, zt_iload 3), (28, 31, zt_if_eq 45), (31, 32, zt_aload 0), (32, 33, zt_aload 1), (33, 35, zt_iload 4), (35, 37, zt_iload 8), (37, 39, zt_iload 9), (39, 42, zt_callVF mX12_policyDeed 4 20), (42, 45, zt_goto 61), (45, 46, zt_aload 0), (46, 47, zt_aload 1), (47, 48, zt_aload 2), (48, 50, zt_iload 4), (50, 52, zt_iload 5), (52, 54, zt_iload 6), (54, 56, zt_iload 8), (56, 58, zt_iload 9), (58, 61, zt_callVF mX12_bestDeed 7 20), (61, 63, zt_istoreF 10), (63, 64, zt_aload 2), (64, 66, zt_iload 4), (66, 68, zt_iload 5), (68, 70, zt_iload 8), (70, 72, zt_iload 9), (72, 75, zt_callSF mX12_cell 4), (75, 76, zt_aload 0), (76, 77, zt_aload 1), (77, 78, zt_aload 2), (78, 80, zt_iload 10), (80, 82, zt_iload 4), (82, 84, zt_iload 5), (84, 86, zt_iload 6), (86, 88, zt_iload 8), (88, 90, zt_iload 9), (90, 93, zt_callVF mX12_costBy 8 20), (93, 94, zt_lastoreF), (94, 97, zt_iincF 9 1), (97, 100, zt_goto 20), (100, 103, zt_iincF 8 (-1)), (103, 106, zt_goto 10), (106, 107, zt_vret)]
theorem TX12_laysBy_ok : ∀ i ∈ TX12_laysBy, Ent mX12_laysBy i := by
  refine List.forall_mem_cons.mpr ⟨ze_aload_n (k := 0) (by decide +kernel) rfl, ?_⟩
  refine List.forall_mem_cons.mpr ⟨ze_getL (by decide +kernel) fl_X12_17 rfl (by decide), ?_⟩
  refine List.forall_mem_cons.mpr ⟨ze_iconst (n := 1) (by decide +kernel) (by decide), ?_⟩
  refine List.forall_mem_cons.mpr ⟨ze_iald (by decide +kernel), ?_⟩
  refine List.forall_mem_cons.mpr ⟨ze_iconst (n := 1) (by decide +kernel) (by decide), ?_⟩
  refine List.forall_mem_cons.mpr ⟨ze_isub (by decide +kernel), ?_⟩
  refine List.forall_mem_cons.mpr ⟨ze_istoreF (by decide +kernel) (by decide), ?_⟩
  refine List.forall_mem_cons.mpr ⟨ze_iload (by decide +kernel), ?_⟩
  refine List.forall_mem_cons.mpr ⟨ze_iload (by decide +kernel), ?_⟩
  refine List.forall_mem_cons.mpr ⟨ze_icmp_lt (off := 92) (by decide +kernel) (by decide), ?_⟩
  refine List.forall_mem_cons.mpr ⟨ze_iconst (n := 0) (by decide +kernel) (by decide), ?_⟩
  refine List.forall_mem_cons.mpr ⟨ze_istoreF (by decide +kernel) (by decide), ?_⟩
  refine List.forall_mem_cons.mpr ⟨ze_iload (by decide +kernel), ?_⟩
  refine List.forall_mem_cons.mpr ⟨ze_iload (by decide +kernel), ?_⟩
  refine List.forall_mem_cons.mpr ⟨ze_icmp_gt (off := 76) (by decide +kernel) (by decide), ?_⟩
  refine List.forall_mem_cons.mpr ⟨ze_iload_n (k := 3) (by decide +kernel) rfl, ?_⟩
  refine List.forall_mem_cons.mpr ⟨ze_if_eq (off := 17) (by decide +kernel) (by decide), ?_⟩
  refine List.forall_mem_cons.mpr ⟨ze_aload_n (k := 0) (by decide +kernel) rfl, ?_⟩
  refine List.forall_mem_cons.mpr ⟨ze_aload_n (k := 1) (by decide +kernel) rfl, ?_⟩
  refine List.forall_mem_cons.mpr ⟨ze_iload (by decide +kernel), ?_⟩
  refine List.forall_mem_cons.mpr ⟨ze_iload (by decide +kernel), ?_⟩
  refine List.forall_mem_cons.mpr ⟨ze_iload (by decide +kernel), ?_⟩
  refine List.forall_mem_cons.mpr ⟨ze_callVF (idx := 281) (by decide +kernel) ml_X12_281 mv_X12_policyDeed rfl, ?_⟩
  refine List.forall_mem_cons.mpr ⟨ze_goto (off := 19) (by decide +kernel) (by decide), ?_⟩
  refine List.forall_mem_cons.mpr ⟨ze_aload_n (k := 0) (by decide +kernel) rfl, ?_⟩
  refine List.forall_mem_cons.mpr ⟨ze_aload_n (k := 1) (by decide +kernel) rfl, ?_⟩
  refine List.forall_mem_cons.mpr ⟨ze_aload_n (k := 2) (by decide +kernel) rfl, ?_⟩
  refine List.forall_mem_cons.mpr ⟨ze_iload (by decide +kernel), ?_⟩
  refine List.forall_mem_cons.mpr ⟨ze_iload (by decide +kernel), ?_⟩
  refine List.forall_mem_cons.mpr ⟨ze_iload (by decide +kernel), ?_⟩
  refine List.forall_mem_cons.mpr ⟨ze_iload (by decide +kernel), ?_⟩
  refine List.forall_mem_cons.mpr ⟨ze_iload (by decide +kernel), ?_⟩
  refine List.forall_mem_cons.mpr ⟨ze_callVF (idx := 285) (by decide +kernel) ml_X12_285 mv_X12_bestDeed rfl, ?_⟩
  refine List.forall_mem_cons.mpr ⟨ze_istoreF (by decide +kernel) (by decide), ?_⟩
  refine List.forall_mem_cons.mpr ⟨ze_aload_n (k := 2) (by decide +kernel) rfl, ?_⟩
  refine List.forall_mem_cons.mpr ⟨ze_iload (by decide +kernel), ?_⟩
  refine List.forall_mem_cons.mpr ⟨ze_iload (by decide +kernel), ?_⟩
  refine List.forall_mem_cons.mpr ⟨ze_iload (by decide +kernel), ?_⟩
  refine List.forall_mem_cons.mpr ⟨ze_iload (by decide +kernel), ?_⟩
  refine List.forall_mem_cons.mpr ⟨ze_callSF (idx := 246) (by decide +kernel) ml_X12_246 ms_X12_cell, ?_⟩
  refine List.forall_mem_cons.mpr ⟨ze_aload_n (k := 0) (by decide +kernel) rfl, ?_⟩
  refine List.forall_mem_cons.mpr ⟨ze_aload_n (k := 1) (by decide +kernel) rfl, ?_⟩
  refine List.forall_mem_cons.mpr ⟨ze_aload_n (k := 2) (by decide +kernel) rfl, ?_⟩
  refine List.forall_mem_cons.mpr ⟨ze_iload (by decide +kernel), ?_⟩
  refine List.forall_mem_cons.mpr ⟨ze_iload (by decide +kernel), ?_⟩
  refine List.forall_mem_cons.mpr ⟨ze_iload (by decide +kernel), ?_⟩
  refine List.forall_mem_cons.mpr ⟨ze_iload (by decide +kernel), ?_⟩
  refine List.forall_mem_cons.mpr ⟨ze_iload (by decide +kernel), ?_⟩
  refine List.forall_mem_cons.mpr ⟨ze_iload (by decide +kernel), ?_⟩
  refine List.forall_mem_cons.mpr ⟨ze_callVF (idx := 273) (by decide +kernel) ml_X12_273 mv_X12_costBy rfl, ?_⟩
  refine List.forall_mem_cons.mpr ⟨ze_lastoreF (by decide +kernel), ?_⟩
  refine List.forall_mem_cons.mpr ⟨ze_iincF (n := 1) (by decide +kernel) (by decide) (by decide), ?_⟩
  refine List.forall_mem_cons.mpr ⟨ze_goto (off := -77) (by decide +kernel) (by decide), ?_⟩
  refine List.forall_mem_cons.mpr ⟨ze_iincF (n := -1) (by decide +kernel) (by decide) (by decide), ?_⟩
  refine List.forall_mem_cons.mpr ⟨ze_goto (off := -93) (by decide +kernel) (by decide), ?_⟩
  refine List.forall_mem_cons.mpr ⟨ze_vret (by decide +kernel) rfl, ?_⟩
  exact fun _ h => absurd h List.not_mem_nil
theorem vX12_laysBy {l : Launch} {G : GT} {d : Nat} {av : List Value} {Q : Po} {σ : Mm} (cs : List (Nat × List Nat)) (k : Nat) (h : vc l G d mX12_laysBy TX12_laysBy Q cs k TX12_laysBy (lv_args 0 av) [] σ) (hlen : (lg_sl av).length ≤ mX12_laysBy.2.2.1 := by exact Nat.le_of_ble_eq_true rfl) : MW l G d mX12_laysBy av σ Q := mw_vc TX12_laysBy_ok mc_X12_laysBy rfl hlen cs k rfl h
theorem wX12_laysBy {l : Launch} {G : GT} {d : Nat} {Q : Po} {pc : Nat} {lv : Lv} {st : List Value} {σ : Mm} (cs : List (Nat × List Nat)) (k : Nat) (h : vc l G d mX12_laysBy TX12_laysBy Q cs k (drp TX12_laysBy pc) lv st σ) (hpc : hdp (drp TX12_laysBy pc) = pc := by rfl) : Wp l G d mX12_laysBy pc lv st σ Q := wp_vc TX12_laysBy_ok cs k hpc h
def TX12_lays : List In := [(0, 1, zt_aload 0), (1, 2, zt_aload 1), (2, 5, zt_callVF mX12_laysYears 1 20), (5, 6, zt_ic 0), (6, 8, zt_istoreF 6), (8, 10, zt_iload 6), (10, 12, zt_iload 5), (12, 15, zt_icmp_gt 106), (15, 16, zt_ic 0), (16, 18, zt_istoreF 7), (18, 20, zt_iload 7), (20, 21, zt_aload 0), (21, 24, zt_getL 20 6), (24, 25, zt_ic 1), (25, 26, zt_iald), (26, 29, zt_icmp_ge 87), (29, 31, zt_iload 6), (31, 33, zt_iload 5), (33, 36, zt_icmp_ge 87), (36, 37, zt_ic 0), (37, 39, zt_istoreF 8), (39, 41, zt_iload 8), (41, 43, zt_iload 7), (43, 46, zt_icmp_gt 81), (46, 47, zt_aload 0), (47, 48, zt_aload 1), (48, 49, zt_aload 2), (49, 50, zt_iload 3), (50, 52, zt_iload 6), (52, 54, zt_iload 7), (54, 56, zt_iload 8), (56, 59, zt_callSF mX12_node 2), (59, 60, zt_ic 1), (60, 61, zt_iadd), (61, 62, zt_aload 0), (62, 63, zt_aload 1), (63, 65, zt_iload 7), (65, 67, zt_iload 8), (67, 70, zt_callVF mX12_newCoupon 3 20), (70, 72, zt_iload 7), (72, 75, zt_callVF mX12_laysBy 7 20), (75, 78, zt_iincF 8 1), (78, 81, zt_goto 39), (81, 84, zt_iincF 7 1), (84, 87, zt_goto 18), (87, 88, zt_aload 0), (88, 89, zt_aload 1), (89, 90, zt_aload 2), (90, 91, zt_iload 3), (91, 93, zt_iload 6), (93, 94, zt_ic 0), (94, 96, zt_iload 4), (96, 97, zt_ic 0), (97, 100, zt_callVF mX12_laysBy 7 20), (100, 103, zt_iincF 6 1), (103, 106, zt_goto 8), (106, 107, zt_vret)]
theorem TX12_lays_ok : ∀ i ∈ TX12_lays, Ent mX12_lays i := by
  refine List.forall_mem_cons.mpr ⟨ze_aload_n (k := 0) (by decide +kernel) rfl, ?_⟩
  refine List.forall_mem_cons.mpr ⟨ze_aload_n (k := 1) (by decide +kernel) rfl, ?_⟩
  refine List.forall_mem_cons.mpr ⟨ze_callVF (idx := 289) (by decide +kernel) ml_X12_289 mv_X12_laysYears rfl, ?_⟩
  refine List.forall_mem_cons.mpr ⟨ze_iconst (n := 0) (by decide +kernel) (by decide), ?_⟩
  refine List.forall_mem_cons.mpr ⟨ze_istoreF (by decide +kernel) (by decide), ?_⟩
  refine List.forall_mem_cons.mpr ⟨ze_iload (by decide +kernel), ?_⟩
  refine List.forall_mem_cons.mpr ⟨ze_iload (by decide +kernel), ?_⟩
  refine List.forall_mem_cons.mpr ⟨ze_icmp_gt (off := 94) (by decide +kernel) (by decide), ?_⟩
  refine List.forall_mem_cons.mpr ⟨ze_iconst (n := 0) (by decide +kernel) (by decide), ?_⟩
  refine List.forall_mem_cons.mpr ⟨ze_istoreF (by decide +kernel) (by decide), ?_⟩
  refine List.forall_mem_cons.mpr ⟨ze_iload (by decide +kernel), ?_⟩
  refine List.forall_mem_cons.mpr ⟨ze_aload_n (k := 0) (by decide +kernel) rfl, ?_⟩
  refine List.forall_mem_cons.mpr ⟨ze_getL (by decide +kernel) fl_X12_17 rfl (by decide), ?_⟩
  refine List.forall_mem_cons.mpr ⟨ze_iconst (n := 1) (by decide +kernel) (by decide), ?_⟩
  refine List.forall_mem_cons.mpr ⟨ze_iald (by decide +kernel), ?_⟩
  refine List.forall_mem_cons.mpr ⟨ze_icmp_ge (off := 61) (by decide +kernel) (by decide), ?_⟩
  refine List.forall_mem_cons.mpr ⟨ze_iload (by decide +kernel), ?_⟩
  refine List.forall_mem_cons.mpr ⟨ze_iload (by decide +kernel), ?_⟩
  refine List.forall_mem_cons.mpr ⟨ze_icmp_ge (off := 54) (by decide +kernel) (by decide), ?_⟩
  refine List.forall_mem_cons.mpr ⟨ze_iconst (n := 0) (by decide +kernel) (by decide), ?_⟩
  refine List.forall_mem_cons.mpr ⟨ze_istoreF (by decide +kernel) (by decide), ?_⟩
  refine List.forall_mem_cons.mpr ⟨ze_iload (by decide +kernel), ?_⟩
  refine List.forall_mem_cons.mpr ⟨ze_iload (by decide +kernel), ?_⟩
  refine List.forall_mem_cons.mpr ⟨ze_icmp_gt (off := 38) (by decide +kernel) (by decide), ?_⟩
  refine List.forall_mem_cons.mpr ⟨ze_aload_n (k := 0) (by decide +kernel) rfl, ?_⟩
  refine List.forall_mem_cons.mpr ⟨ze_aload_n (k := 1) (by decide +kernel) rfl, ?_⟩
  refine List.forall_mem_cons.mpr ⟨ze_aload_n (k := 2) (by decide +kernel) rfl, ?_⟩
  refine List.forall_mem_cons.mpr ⟨ze_iload_n (k := 3) (by decide +kernel) rfl, ?_⟩
  refine List.forall_mem_cons.mpr ⟨ze_iload (by decide +kernel), ?_⟩
  refine List.forall_mem_cons.mpr ⟨ze_iload (by decide +kernel), ?_⟩
  refine List.forall_mem_cons.mpr ⟨ze_iload (by decide +kernel), ?_⟩
  refine List.forall_mem_cons.mpr ⟨ze_callSF (idx := 210) (by decide +kernel) ml_X12_210 ms_X12_node, ?_⟩
  refine List.forall_mem_cons.mpr ⟨ze_iconst (n := 1) (by decide +kernel) (by decide), ?_⟩
  refine List.forall_mem_cons.mpr ⟨ze_iadd (by decide +kernel), ?_⟩
  refine List.forall_mem_cons.mpr ⟨ze_aload_n (k := 0) (by decide +kernel) rfl, ?_⟩
  refine List.forall_mem_cons.mpr ⟨ze_aload_n (k := 1) (by decide +kernel) rfl, ?_⟩
  refine List.forall_mem_cons.mpr ⟨ze_iload (by decide +kernel), ?_⟩
  refine List.forall_mem_cons.mpr ⟨ze_iload (by decide +kernel), ?_⟩
  refine List.forall_mem_cons.mpr ⟨ze_callVF (idx := 293) (by decide +kernel) ml_X12_293 mv_X12_newCoupon rfl, ?_⟩
  refine List.forall_mem_cons.mpr ⟨ze_iload (by decide +kernel), ?_⟩
  refine List.forall_mem_cons.mpr ⟨ze_callVF (idx := 296) (by decide +kernel) ml_X12_296 mv_X12_laysBy rfl, ?_⟩
  refine List.forall_mem_cons.mpr ⟨ze_iincF (n := 1) (by decide +kernel) (by decide) (by decide), ?_⟩
  refine List.forall_mem_cons.mpr ⟨ze_goto (off := -39) (by decide +kernel) (by decide), ?_⟩
  refine List.forall_mem_cons.mpr ⟨ze_iincF (n := 1) (by decide +kernel) (by decide) (by decide), ?_⟩
  refine List.forall_mem_cons.mpr ⟨ze_goto (off := -66) (by decide +kernel) (by decide), ?_⟩
  refine List.forall_mem_cons.mpr ⟨ze_aload_n (k := 0) (by decide +kernel) rfl, ?_⟩
  refine List.forall_mem_cons.mpr ⟨ze_aload_n (k := 1) (by decide +kernel) rfl, ?_⟩
  refine List.forall_mem_cons.mpr ⟨ze_aload_n (k := 2) (by decide +kernel) rfl, ?_⟩
  refine List.forall_mem_cons.mpr ⟨ze_iload_n (k := 3) (by decide +kernel) rfl, ?_⟩
  refine List.forall_mem_cons.mpr ⟨ze_iload (by decide +kernel), ?_⟩
  refine List.forall_mem_cons.mpr ⟨ze_iconst (n := 0) (by decide +kernel) (by decide), ?_⟩
  refine List.forall_mem_cons.mpr ⟨ze_iload (by decide +kernel), ?_⟩
  refine List.forall_mem_cons.mpr ⟨ze_iconst (n := 0) (by decide +kernel) (by decide), ?_⟩
  refine List.forall_mem_cons.mpr ⟨ze_callVF (idx := 296) (by decide +kernel) ml_X12_296 mv_X12_laysBy rfl, ?_⟩
  refine List.forall_mem_cons.mpr ⟨ze_iincF (n := 1) (by decide +kernel) (by decide) (by decide), ?_⟩
  refine List.forall_mem_cons.mpr ⟨ze_goto (off := -95) (by decide +kernel) (by decide), ?_⟩
  refine List.forall_mem_cons.mpr ⟨ze_vret (by decide +kernel) rfl, ?_⟩
  exact fun _ h => absurd h List.not_mem_nil
theorem vX12_lays {l : Launch} {G : GT} {d : Nat} {av : List Value} {Q : Po} {σ : Mm} (cs : List (Nat × List Nat)) (k : Nat) (h : vc l G d mX12_lays TX12_lays Q cs k TX12_lays (lv_args 0 av) [] σ) (hlen : (lg_sl av).length ≤ mX12_lays.2.2.1 := by exact Nat.le_of_ble_eq_true rfl) : MW l G d mX12_lays av σ Q := mw_vc TX12_lays_ok mc_X12_lays rfl hlen cs k rfl h
theorem wX12_lays {l : Launch} {G : GT} {d : Nat} {Q : Po} {pc : Nat} {lv : Lv} {st : List Value} {σ : Mm} (cs : List (Nat × List Nat)) (k : Nat) (h : vc l G d mX12_lays TX12_lays Q cs k (drp TX12_lays pc) lv st σ) (hpc : hdp (drp TX12_lays pc) = pc := by rfl) : Wp l G d mX12_lays pc lv st σ Q := wp_vc TX12_lays_ok cs k hpc h
def TX12_laysNow : List In := [(0, 1, zt_aload 0), (1, 2, zt_ic 0), (2, 5, zt_putI 20 27), (5, 6, zt_aload 0), (6, 7, zt_aload 0), (7, 10, zt_getL 20 20), (10, 11, zt_aload 0), (11, 14, zt_getL 20 31), (14, 15, zt_ic 0), (15, 16, zt_aload 0), (16, 19, zt_getL 20 20), (19, 20, zt_ic 2), (20, 21, zt_iald), (21, 22, zt_aload 0), (22, 25, zt_getL 20 20), (25, 26, zt_ic 3), (26, 27, zt_iald), (27, 30, zt_callVF mX12_lays 5 20), (30, 31, zt_vret)]
theorem TX12_laysNow_ok : ∀ i ∈ TX12_laysNow, Ent mX12_laysNow i := by
  refine List.forall_mem_cons.mpr ⟨ze_aload_n (k := 0) (by decide +kernel) rfl, ?_⟩
  refine List.forall_mem_cons.mpr ⟨ze_iconst (n := 0) (by decide +kernel) (by decide), ?_⟩
  refine List.forall_mem_cons.mpr ⟨ze_putI (by decide +kernel) fl_X12_234 ⟨_, _, _, rfl, rfl, by decide +kernel⟩ rfl, ?_⟩
  refine List.forall_mem_cons.mpr ⟨ze_aload_n (k := 0) (by decide +kernel) rfl, ?_⟩
  refine List.forall_mem_cons.mpr ⟨ze_aload_n (k := 0) (by decide +kernel) rfl, ?_⟩
  refine List.forall_mem_cons.mpr ⟨ze_getL (by decide +kernel) fl_X12_38 rfl (by decide), ?_⟩
  refine List.forall_mem_cons.mpr ⟨ze_aload_n (k := 0) (by decide +kernel) rfl, ?_⟩
  refine List.forall_mem_cons.mpr ⟨ze_getL (by decide +kernel) fl_X12_60 rfl (by decide), ?_⟩
  refine List.forall_mem_cons.mpr ⟨ze_iconst (n := 0) (by decide +kernel) (by decide), ?_⟩
  refine List.forall_mem_cons.mpr ⟨ze_aload_n (k := 0) (by decide +kernel) rfl, ?_⟩
  refine List.forall_mem_cons.mpr ⟨ze_getL (by decide +kernel) fl_X12_38 rfl (by decide), ?_⟩
  refine List.forall_mem_cons.mpr ⟨ze_iconst (n := 2) (by decide +kernel) (by decide), ?_⟩
  refine List.forall_mem_cons.mpr ⟨ze_iald (by decide +kernel), ?_⟩
  refine List.forall_mem_cons.mpr ⟨ze_aload_n (k := 0) (by decide +kernel) rfl, ?_⟩
  refine List.forall_mem_cons.mpr ⟨ze_getL (by decide +kernel) fl_X12_38 rfl (by decide), ?_⟩
  refine List.forall_mem_cons.mpr ⟨ze_iconst (n := 3) (by decide +kernel) (by decide), ?_⟩
  refine List.forall_mem_cons.mpr ⟨ze_iald (by decide +kernel), ?_⟩
  refine List.forall_mem_cons.mpr ⟨ze_callVF (idx := 300) (by decide +kernel) ml_X12_300 mv_X12_lays rfl, ?_⟩
  refine List.forall_mem_cons.mpr ⟨ze_vret (by decide +kernel) rfl, ?_⟩
  exact fun _ h => absurd h List.not_mem_nil
theorem vX12_laysNow {l : Launch} {G : GT} {d : Nat} {av : List Value} {Q : Po} {σ : Mm} (cs : List (Nat × List Nat)) (k : Nat) (h : vc l G d mX12_laysNow TX12_laysNow Q cs k TX12_laysNow (lv_args 0 av) [] σ) (hlen : (lg_sl av).length ≤ mX12_laysNow.2.2.1 := by exact Nat.le_of_ble_eq_true rfl) : MW l G d mX12_laysNow av σ Q := mw_vc TX12_laysNow_ok mc_X12_laysNow rfl hlen cs k rfl h
theorem wX12_laysNow {l : Launch} {G : GT} {d : Nat} {Q : Po} {pc : Nat} {lv : Lv} {st : List Value} {σ : Mm} (cs : List (Nat × List Nat)) (k : Nat) (h : vc l G d mX12_laysNow TX12_laysNow Q cs k (drp TX12_laysNow pc) lv st σ) (hpc : hdp (drp TX12_laysNow pc) = pc := by rfl) : Wp l G d mX12_laysNow pc lv st σ Q := wp_vc TX12_laysNow_ok cs k hpc h
def TX12_laysPolicy : List In := [(0, 1, zt_aload 0), (1, 2, zt_ic 0), (2, 5, zt_putI 20 27), (5, 6, zt_aload 0), (6, 7, zt_aload 1), (7, 8, zt_aload 0), (8, 11, zt_getL 20 32), (11, 12, zt_ic 1), (12, 13, zt_aload 1), (13, 14, zt_ic 2), (14, 15, zt_iald), (15, 16, zt_aload 1), (16, 17, zt_ic 3), (17, 18, zt_iald), (18, 21, zt_callVF mX12_lays 5 20), (21, 22, zt_vret)]
theorem TX12_laysPolicy_ok : ∀ i ∈ TX12_laysPolicy, Ent mX12_laysPolicy i := by
  refine List.forall_mem_cons.mpr ⟨ze_aload_n (k := 0) (by decide +kernel) rfl, ?_⟩
  refine List.forall_mem_cons.mpr ⟨ze_iconst (n := 0) (by decide +kernel) (by decide), ?_⟩
  refine List.forall_mem_cons.mpr ⟨ze_putI (by decide +kernel) fl_X12_234 ⟨_, _, _, rfl, rfl, by decide +kernel⟩ rfl, ?_⟩
  refine List.forall_mem_cons.mpr ⟨ze_aload_n (k := 0) (by decide +kernel) rfl, ?_⟩
  refine List.forall_mem_cons.mpr ⟨ze_aload_n (k := 1) (by decide +kernel) rfl, ?_⟩
  refine List.forall_mem_cons.mpr ⟨ze_aload_n (k := 0) (by decide +kernel) rfl, ?_⟩
  refine List.forall_mem_cons.mpr ⟨ze_getL (by decide +kernel) fl_X12_64 rfl (by decide), ?_⟩
  refine List.forall_mem_cons.mpr ⟨ze_iconst (n := 1) (by decide +kernel) (by decide), ?_⟩
  refine List.forall_mem_cons.mpr ⟨ze_aload_n (k := 1) (by decide +kernel) rfl, ?_⟩
  refine List.forall_mem_cons.mpr ⟨ze_iconst (n := 2) (by decide +kernel) (by decide), ?_⟩
  refine List.forall_mem_cons.mpr ⟨ze_iald (by decide +kernel), ?_⟩
  refine List.forall_mem_cons.mpr ⟨ze_aload_n (k := 1) (by decide +kernel) rfl, ?_⟩
  refine List.forall_mem_cons.mpr ⟨ze_iconst (n := 3) (by decide +kernel) (by decide), ?_⟩
  refine List.forall_mem_cons.mpr ⟨ze_iald (by decide +kernel), ?_⟩
  refine List.forall_mem_cons.mpr ⟨ze_callVF (idx := 300) (by decide +kernel) ml_X12_300 mv_X12_lays rfl, ?_⟩
  refine List.forall_mem_cons.mpr ⟨ze_vret (by decide +kernel) rfl, ?_⟩
  exact fun _ h => absurd h List.not_mem_nil
theorem vX12_laysPolicy {l : Launch} {G : GT} {d : Nat} {av : List Value} {Q : Po} {σ : Mm} (cs : List (Nat × List Nat)) (k : Nat) (h : vc l G d mX12_laysPolicy TX12_laysPolicy Q cs k TX12_laysPolicy (lv_args 0 av) [] σ) (hlen : (lg_sl av).length ≤ mX12_laysPolicy.2.2.1 := by exact Nat.le_of_ble_eq_true rfl) : MW l G d mX12_laysPolicy av σ Q := mw_vc TX12_laysPolicy_ok mc_X12_laysPolicy rfl hlen cs k rfl h
theorem wX12_laysPolicy {l : Launch} {G : GT} {d : Nat} {Q : Po} {pc : Nat} {lv : Lv} {st : List Value} {σ : Mm} (cs : List (Nat × List Nat)) (k : Nat) (h : vc l G d mX12_laysPolicy TX12_laysPolicy Q cs k (drp TX12_laysPolicy pc) lv st σ) (hpc : hdp (drp TX12_laysPolicy pc) = pc := by rfl) : Wp l G d mX12_laysPolicy pc lv st σ Q := wp_vc TX12_laysPolicy_ok cs k hpc h
def TX12_isOver : List In := [(0, 1, zt_aload 0), (1, 4, zt_getI 20 17), (4, 7, zt_if_eq 15), (7, 8, zt_aload 1), (8, 10, zt_ic 6), (10, 11, zt_iald), (11, 12, zt_ic 1), (12, 15, zt_icmp_ne 19), (15, 16, zt_ic 1), (16, 19, zt_goto 20), (19, 20, zt_ic 0), (20, 21, zt_zret)]
theorem TX12_isOver_ok : ∀ i ∈ TX12_isOver, Ent mX12_isOver i := by
  refine List.forall_mem_cons.mpr ⟨ze_aload_n (k := 0) (by decide +kernel) rfl, ?_⟩
  refine List.forall_mem_cons.mpr ⟨ze_getI (by decide +kernel) fl_X12_202 rfl, ?_⟩
  refine List.forall_mem_cons.mpr ⟨ze_if_eq (off := 11) (by decide +kernel) (by decide), ?_⟩
  refine List.forall_mem_cons.mpr ⟨ze_aload_n (k := 1) (by decide +kernel) rfl, ?_⟩
  refine List.forall_mem_cons.mpr ⟨ze_bipush (n := 6) (by decide +kernel) (by decide), ?_⟩
  refine List.forall_mem_cons.mpr ⟨ze_iald (by decide +kernel), ?_⟩
  refine List.forall_mem_cons.mpr ⟨ze_iconst (n := 1) (by decide +kernel) (by decide), ?_⟩
  refine List.forall_mem_cons.mpr ⟨ze_icmp_ne (off := 7) (by decide +kernel) (by decide), ?_⟩
  refine List.forall_mem_cons.mpr ⟨ze_iconst (n := 1) (by decide +kernel) (by decide), ?_⟩
  refine List.forall_mem_cons.mpr ⟨ze_goto (off := 4) (by decide +kernel) (by decide), ?_⟩
  refine List.forall_mem_cons.mpr ⟨ze_iconst (n := 0) (by decide +kernel) (by decide), ?_⟩
  refine List.forall_mem_cons.mpr ⟨ze_zret (by decide +kernel) rfl, ?_⟩
  exact fun _ h => absurd h List.not_mem_nil
theorem vX12_isOver {l : Launch} {G : GT} {d : Nat} {av : List Value} {Q : Po} {σ : Mm} (cs : List (Nat × List Nat)) (k : Nat) (h : vc l G d mX12_isOver TX12_isOver Q cs k TX12_isOver (lv_args 0 av) [] σ) (hlen : (lg_sl av).length ≤ mX12_isOver.2.2.1 := by exact Nat.le_of_ble_eq_true rfl) : MW l G d mX12_isOver av σ Q := mw_vc TX12_isOver_ok mc_X12_isOver rfl hlen cs k rfl h
theorem wX12_isOver {l : Launch} {G : GT} {d : Nat} {Q : Po} {pc : Nat} {lv : Lv} {st : List Value} {σ : Mm} (cs : List (Nat × List Nat)) (k : Nat) (h : vc l G d mX12_isOver TX12_isOver Q cs k (drp TX12_isOver pc) lv st σ) (hpc : hdp (drp TX12_isOver pc) = pc := by rfl) : Wp l G d mX12_isOver pc lv st σ Q := wp_vc TX12_isOver_ok cs k hpc h
def TX12_stops : List In := [(0, 1, zt_aload 0), (1, 2, zt_aload 1), (2, 5, zt_callVF mX12_isOver 1 20), (5, 8, zt_if_eq 10), (8, 9, zt_ic 0), (9, 10, zt_iret), (10, 11, zt_iload 2), (11, 44, zt_tsw 2 6 [44, 44, 76, 88, 149] 209), (44, 45, zt_aload 1), (45, 46, zt_ic 4), (46, 47, zt_iald), (47, 50, zt_if_eq 54), (50, 51, zt_ic 2), (51, 54, zt_goto 75), (54, 55, zt_aload 0), (55, 56, zt_iload 2), (56, 57, zt_ic 1), (57, 58, zt_isub), (58, 59, zt_aload 1), (59, 60, zt_ic 3), (60, 61, zt_iald), (61, 62, zt_aload 1), (62, 63, zt_ic 0), (63, 64, zt_iald), (64, 67, zt_callVF mX12_may 3 20), (67, 70, zt_if_eq 74), (70, 71, zt_ic (-1)), (71, 74, zt_goto 75), (74, 75, zt_ic 3), (75, 76, zt_iret), (76, 77, zt_aload 1), (77, 78, zt_ic 4), (78, 79, zt_iald), (79, 82, zt_if_ne 86), (82, 83, zt_ic 2), (83, 86, zt_goto 87), (86, 87, zt_ic (-1)), (87, 88, zt_iret), (88, 89, zt_iload 3), (89, 90, zt_i2l), (90, 91, zt_aload 1), (91, 92, zt_ic 0), (92, 93, zt_iald), (93, 94, zt_ic 1), (94, 95, zt_iadd), (95, 96, zt_i2l), (96, 97, zt_aload 0), (97, 100, zt_getL 20 6), (100, 101, zt_ic 1), (101, 102, zt_iald), (102, 103, zt_ic 1), (103, 104, zt_isub), (104, 105, zt_i2l), (105, 108, zt_callSF mX12_isIn 3), (108, 111, zt_if_ne 115), (111, 112, zt_ic 0), (112, 115, zt_goto 148), (115, 117, zt_iload 4), (117, 118, zt_i2l), (118, 119, zt_lc 0), (119, 122, zt_lc (9999 : Int64)), (122, 125, zt_callSF mX12_isIn 3), (125, 128, zt_if_ne 132), (128, 129, zt_ic 1), (129, 132, zt_goto 148), (132, 133, zt_aload 1), (133, 135, zt_ic 12), (135, 136, zt_iload 3), (136, 137, zt_iadd), (137, 138, zt_iald), (138, 140, zt_iload 4), (140, 143, zt_icmp_ne 147), (143, 144, zt_ic 2), (144, 147, zt_goto 148), (147, 148, zt_ic (-1)), (148, 149, zt_iret), (149, 150, zt_aload 0), (150, 151, zt_iload 3), (151, 153, zt_iload 4), (153, 156, zt_callVF mX12_isNode 2 20), (156, 159, zt_if_eq 169), (159, 160, zt_aload 1), (160, 161, zt_iload 3), (161, 163, zt_iload 4), (163, 166, zt_callSF mX12_canCome 3), (166, 169, zt_if_ne 173), (169, 170, zt_ic 0), (170, 173, zt_goto 208), (173, 175, zt_iload 5), (175, 176, zt_i2l), (176, 177, zt_lc 0), (177, 180, zt_lc (999 : Int64)), (180, 183, zt_callSF mX12_isIn 3), (183, 186, zt_if_ne 190), (186, 187, zt_ic 1), (187, 190, zt_goto 208), (190, 191, zt_aload 0), (191, 192, zt_aload 1), (192, 193, zt_iload 3), (193, 195, zt_iload 4), (195, 198, zt_callVF mX12_rateOf 3 20), (198, 200, zt_iload 5), (200, 203, zt_icmp_ne 207), (203, 204, zt_ic 2), (204, 207, zt_goto 208), (207, 208, zt_ic (-1)), (208, 209, zt_iret), (209, 210, zt_ic (-1)), (210, 211, zt_iret)]
theorem TX12_stops_ok : ∀ i ∈ TX12_stops, Ent mX12_stops i := by
  refine List.forall_mem_cons.mpr ⟨ze_aload_n (k := 0) (by decide +kernel) rfl, ?_⟩
  refine List.forall_mem_cons.mpr ⟨ze_aload_n (k := 1) (by decide +kernel) rfl, ?_⟩
  refine List.forall_mem_cons.mpr ⟨ze_callVF (idx := 304) (by decide +kernel) ml_X12_304 mv_X12_isOver rfl, ?_⟩
  refine List.forall_mem_cons.mpr ⟨ze_if_eq (off := 5) (by decide +kernel) (by decide), ?_⟩
  refine List.forall_mem_cons.mpr ⟨ze_iconst (n := 0) (by decide +kernel) (by decide), ?_⟩
  refine List.forall_mem_cons.mpr ⟨ze_iret (by decide +kernel) rfl, ?_⟩
  refine List.forall_mem_cons.mpr ⟨ze_iload_n (k := 2) (by decide +kernel) rfl, ?_⟩
  refine List.forall_mem_cons.mpr ⟨ze_tsw (len := 33) (df0 := 198) (offs := #[33, 33, 65, 77, 138]) (by decide +kernel) (by decide) (by decide +kernel) (by decide), ?_⟩
  refine List.forall_mem_cons.mpr ⟨ze_aload_n (k := 1) (by decide +kernel) rfl, ?_⟩
  refine List.forall_mem_cons.mpr ⟨ze_iconst (n := 4) (by decide +kernel) (by decide), ?_⟩
  refine List.forall_mem_cons.mpr ⟨ze_iald (by decide +kernel), ?_⟩
  refine List.forall_mem_cons.mpr ⟨ze_if_eq (off := 7) (by decide +kernel) (by decide), ?_⟩
  refine List.forall_mem_cons.mpr ⟨ze_iconst (n := 2) (by decide +kernel) (by decide), ?_⟩
  refine List.forall_mem_cons.mpr ⟨ze_goto (off := 24) (by decide +kernel) (by decide), ?_⟩
  refine List.forall_mem_cons.mpr ⟨ze_aload_n (k := 0) (by decide +kernel) rfl, ?_⟩
  refine List.forall_mem_cons.mpr ⟨ze_iload_n (k := 2) (by decide +kernel) rfl, ?_⟩
  refine List.forall_mem_cons.mpr ⟨ze_iconst (n := 1) (by decide +kernel) (by decide), ?_⟩
  refine List.forall_mem_cons.mpr ⟨ze_isub (by decide +kernel), ?_⟩
  refine List.forall_mem_cons.mpr ⟨ze_aload_n (k := 1) (by decide +kernel) rfl, ?_⟩
  refine List.forall_mem_cons.mpr ⟨ze_iconst (n := 3) (by decide +kernel) (by decide), ?_⟩
  refine List.forall_mem_cons.mpr ⟨ze_iald (by decide +kernel), ?_⟩
  refine List.forall_mem_cons.mpr ⟨ze_aload_n (k := 1) (by decide +kernel) rfl, ?_⟩
  refine List.forall_mem_cons.mpr ⟨ze_iconst (n := 0) (by decide +kernel) (by decide), ?_⟩
  refine List.forall_mem_cons.mpr ⟨ze_iald (by decide +kernel), ?_⟩
  refine List.forall_mem_cons.mpr ⟨ze_callVF (idx := 277) (by decide +kernel) ml_X12_277 mv_X12_may rfl, ?_⟩
  refine List.forall_mem_cons.mpr ⟨ze_if_eq (off := 7) (by decide +kernel) (by decide), ?_⟩
  refine List.forall_mem_cons.mpr ⟨ze_iconst (n := -1) (by decide +kernel) (by decide), ?_⟩
  refine List.forall_mem_cons.mpr ⟨ze_goto (off := 4) (by decide +kernel) (by decide), ?_⟩
  refine List.forall_mem_cons.mpr ⟨ze_iconst (n := 3) (by decide +kernel) (by decide), ?_⟩
  refine List.forall_mem_cons.mpr ⟨ze_iret (by decide +kernel) rfl, ?_⟩
  refine List.forall_mem_cons.mpr ⟨ze_aload_n (k := 1) (by decide +kernel) rfl, ?_⟩
  refine List.forall_mem_cons.mpr ⟨ze_iconst (n := 4) (by decide +kernel) (by decide), ?_⟩
  refine List.forall_mem_cons.mpr ⟨ze_iald (by decide +kernel), ?_⟩
  refine List.forall_mem_cons.mpr ⟨ze_if_ne (off := 7) (by decide +kernel) (by decide), ?_⟩
  refine List.forall_mem_cons.mpr ⟨ze_iconst (n := 2) (by decide +kernel) (by decide), ?_⟩
  refine List.forall_mem_cons.mpr ⟨ze_goto (off := 4) (by decide +kernel) (by decide), ?_⟩
  refine List.forall_mem_cons.mpr ⟨ze_iconst (n := -1) (by decide +kernel) (by decide), ?_⟩
  refine List.forall_mem_cons.mpr ⟨ze_iret (by decide +kernel) rfl, ?_⟩
  refine List.forall_mem_cons.mpr ⟨ze_iload_n (k := 3) (by decide +kernel) rfl, ?_⟩
  refine List.forall_mem_cons.mpr ⟨ze_i2l (by decide +kernel), ?_⟩
  refine List.forall_mem_cons.mpr ⟨ze_aload_n (k := 1) (by decide +kernel) rfl, ?_⟩
  refine List.forall_mem_cons.mpr ⟨ze_iconst (n := 0) (by decide +kernel) (by decide), ?_⟩
  refine List.forall_mem_cons.mpr ⟨ze_iald (by decide +kernel), ?_⟩
  refine List.forall_mem_cons.mpr ⟨ze_iconst (n := 1) (by decide +kernel) (by decide), ?_⟩
  refine List.forall_mem_cons.mpr ⟨ze_iadd (by decide +kernel), ?_⟩
  refine List.forall_mem_cons.mpr ⟨ze_i2l (by decide +kernel), ?_⟩
  refine List.forall_mem_cons.mpr ⟨ze_aload_n (k := 0) (by decide +kernel) rfl, ?_⟩
  refine List.forall_mem_cons.mpr ⟨ze_getL (by decide +kernel) fl_X12_17 rfl (by decide), ?_⟩
  refine List.forall_mem_cons.mpr ⟨ze_iconst (n := 1) (by decide +kernel) (by decide), ?_⟩
  refine List.forall_mem_cons.mpr ⟨ze_iald (by decide +kernel), ?_⟩
  refine List.forall_mem_cons.mpr ⟨ze_iconst (n := 1) (by decide +kernel) (by decide), ?_⟩
  refine List.forall_mem_cons.mpr ⟨ze_isub (by decide +kernel), ?_⟩
  refine List.forall_mem_cons.mpr ⟨ze_i2l (by decide +kernel), ?_⟩
  refine List.forall_mem_cons.mpr ⟨ze_callSF (idx := 148) (by decide +kernel) ml_X12_148 ms_X12_isIn, ?_⟩
  refine List.forall_mem_cons.mpr ⟨ze_if_ne (off := 7) (by decide +kernel) (by decide), ?_⟩
  refine List.forall_mem_cons.mpr ⟨ze_iconst (n := 0) (by decide +kernel) (by decide), ?_⟩
  refine List.forall_mem_cons.mpr ⟨ze_goto (off := 36) (by decide +kernel) (by decide), ?_⟩
  refine List.forall_mem_cons.mpr ⟨ze_iload (by decide +kernel), ?_⟩
  refine List.forall_mem_cons.mpr ⟨ze_i2l (by decide +kernel), ?_⟩
  refine List.forall_mem_cons.mpr ⟨ze_lconst (n := 0) (by decide +kernel) (by decide), ?_⟩
  refine List.forall_mem_cons.mpr ⟨ze_ldc2 (i := 308) (by decide +kernel) kc_X12_308, ?_⟩
  refine List.forall_mem_cons.mpr ⟨ze_callSF (idx := 148) (by decide +kernel) ml_X12_148 ms_X12_isIn, ?_⟩
  refine List.forall_mem_cons.mpr ⟨ze_if_ne (off := 7) (by decide +kernel) (by decide), ?_⟩
  refine List.forall_mem_cons.mpr ⟨ze_iconst (n := 1) (by decide +kernel) (by decide), ?_⟩
  refine List.forall_mem_cons.mpr ⟨ze_goto (off := 19) (by decide +kernel) (by decide), ?_⟩
  refine List.forall_mem_cons.mpr ⟨ze_aload_n (k := 1) (by decide +kernel) rfl, ?_⟩
  refine List.forall_mem_cons.mpr ⟨ze_bipush (n := 12) (by decide +kernel) (by decide), ?_⟩
  refine List.forall_mem_cons.mpr ⟨ze_iload_n (k := 3) (by decide +kernel) rfl, ?_⟩
  refine List.forall_mem_cons.mpr ⟨ze_iadd (by decide +kernel), ?_⟩
  refine List.forall_mem_cons.mpr ⟨ze_iald (by decide +kernel), ?_⟩
  refine List.forall_mem_cons.mpr ⟨ze_iload (by decide +kernel), ?_⟩
  refine List.forall_mem_cons.mpr ⟨ze_icmp_ne (off := 7) (by decide +kernel) (by decide), ?_⟩
  refine List.forall_mem_cons.mpr ⟨ze_iconst (n := 2) (by decide +kernel) (by decide), ?_⟩
  refine List.forall_mem_cons.mpr ⟨ze_goto (off := 4) (by decide +kernel) (by decide), ?_⟩
  refine List.forall_mem_cons.mpr ⟨ze_iconst (n := -1) (by decide +kernel) (by decide), ?_⟩
  refine List.forall_mem_cons.mpr ⟨ze_iret (by decide +kernel) rfl, ?_⟩
  refine List.forall_mem_cons.mpr ⟨ze_aload_n (k := 0) (by decide +kernel) rfl, ?_⟩
  refine List.forall_mem_cons.mpr ⟨ze_iload_n (k := 3) (by decide +kernel) rfl, ?_⟩
  refine List.forall_mem_cons.mpr ⟨ze_iload (by decide +kernel), ?_⟩
  refine List.forall_mem_cons.mpr ⟨ze_callVF (idx := 206) (by decide +kernel) ml_X12_206 mv_X12_isNode rfl, ?_⟩
  refine List.forall_mem_cons.mpr ⟨ze_if_eq (off := 13) (by decide +kernel) (by decide), ?_⟩
  refine List.forall_mem_cons.mpr ⟨ze_aload_n (k := 1) (by decide +kernel) rfl, ?_⟩
  refine List.forall_mem_cons.mpr ⟨ze_iload_n (k := 3) (by decide +kernel) rfl, ?_⟩
  refine List.forall_mem_cons.mpr ⟨ze_iload (by decide +kernel), ?_⟩
  refine List.forall_mem_cons.mpr ⟨ze_callSF (idx := 310) (by decide +kernel) ml_X12_310 ms_X12_canCome, ?_⟩
  refine List.forall_mem_cons.mpr ⟨ze_if_ne (off := 7) (by decide +kernel) (by decide), ?_⟩
  refine List.forall_mem_cons.mpr ⟨ze_iconst (n := 0) (by decide +kernel) (by decide), ?_⟩
  refine List.forall_mem_cons.mpr ⟨ze_goto (off := 38) (by decide +kernel) (by decide), ?_⟩
  refine List.forall_mem_cons.mpr ⟨ze_iload (by decide +kernel), ?_⟩
  refine List.forall_mem_cons.mpr ⟨ze_i2l (by decide +kernel), ?_⟩
  refine List.forall_mem_cons.mpr ⟨ze_lconst (n := 0) (by decide +kernel) (by decide), ?_⟩
  refine List.forall_mem_cons.mpr ⟨ze_ldc2 (i := 314) (by decide +kernel) kc_X12_314, ?_⟩
  refine List.forall_mem_cons.mpr ⟨ze_callSF (idx := 148) (by decide +kernel) ml_X12_148 ms_X12_isIn, ?_⟩
  refine List.forall_mem_cons.mpr ⟨ze_if_ne (off := 7) (by decide +kernel) (by decide), ?_⟩
  refine List.forall_mem_cons.mpr ⟨ze_iconst (n := 1) (by decide +kernel) (by decide), ?_⟩
  refine List.forall_mem_cons.mpr ⟨ze_goto (off := 21) (by decide +kernel) (by decide), ?_⟩
  refine List.forall_mem_cons.mpr ⟨ze_aload_n (k := 0) (by decide +kernel) rfl, ?_⟩
  refine List.forall_mem_cons.mpr ⟨ze_aload_n (k := 1) (by decide +kernel) rfl, ?_⟩
  refine List.forall_mem_cons.mpr ⟨ze_iload_n (k := 3) (by decide +kernel) rfl, ?_⟩
  refine List.forall_mem_cons.mpr ⟨ze_iload (by decide +kernel), ?_⟩
  refine List.forall_mem_cons.mpr ⟨ze_callVF (idx := 237) (by decide +kernel) ml_X12_237 mv_X12_rateOf rfl, ?_⟩
  refine List.forall_mem_cons.mpr ⟨ze_iload (by decide +kernel), ?_⟩
  refine List.forall_mem_cons.mpr ⟨ze_icmp_ne (off := 7) (by decide +kernel) (by decide), ?_⟩
  refine List.forall_mem_cons.mpr ⟨ze_iconst (n := 2) (by decide +kernel) (by decide), ?_⟩
  refine List.forall_mem_cons.mpr ⟨ze_goto (off := 4) (by decide +kernel) (by decide), ?_⟩
  refine List.forall_mem_cons.mpr ⟨ze_iconst (n := -1) (by decide +kernel) (by decide), ?_⟩
  refine List.forall_mem_cons.mpr ⟨ze_iret (by decide +kernel) rfl, ?_⟩
  refine List.forall_mem_cons.mpr ⟨ze_iconst (n := -1) (by decide +kernel) (by decide), ?_⟩
  refine List.forall_mem_cons.mpr ⟨ze_iret (by decide +kernel) rfl, ?_⟩
  exact fun _ h => absurd h List.not_mem_nil
theorem vX12_stops {l : Launch} {G : GT} {d : Nat} {av : List Value} {Q : Po} {σ : Mm} (cs : List (Nat × List Nat)) (k : Nat) (h : vc l G d mX12_stops TX12_stops Q cs k TX12_stops (lv_args 0 av) [] σ) (hlen : (lg_sl av).length ≤ mX12_stops.2.2.1 := by exact Nat.le_of_ble_eq_true rfl) : MW l G d mX12_stops av σ Q := mw_vc TX12_stops_ok mc_X12_stops rfl hlen cs k rfl h
theorem wX12_stops {l : Launch} {G : GT} {d : Nat} {Q : Po} {pc : Nat} {lv : Lv} {st : List Value} {σ : Mm} (cs : List (Nat × List Nat)) (k : Nat) (h : vc l G d mX12_stops TX12_stops Q cs k (drp TX12_stops pc) lv st σ) (hpc : hdp (drp TX12_stops pc) = pc := by rfl) : Wp l G d mX12_stops pc lv st σ Q := wp_vc TX12_stops_ok cs k hpc h
def TX12_pays : List In := [(0, 1, zt_aload 1), (1, 3, zt_ic 7), (3, 4, zt_dup2), (4, 5, zt_iald), (5, 6, zt_iload 2), (6, 7, zt_iadd), (7, 8, zt_iastoreF), (8, 9, zt_aload 0), (9, 10, zt_dup), (10, 13, zt_getI 20 33), (13, 14, zt_iload 2), (14, 15, zt_iadd), (15, 18, zt_putI 20 33), (18, 19, zt_vret)]
theorem TX12_pays_ok : ∀ i ∈ TX12_pays, Ent mX12_pays i := by
  refine List.forall_mem_cons.mpr ⟨ze_aload_n (k := 1) (by decide +kernel) rfl, ?_⟩
  refine List.forall_mem_cons.mpr ⟨ze_bipush (n := 7) (by decide +kernel) (by decide), ?_⟩
  refine List.forall_mem_cons.mpr ⟨ze_dup2 (by decide +kernel), ?_⟩
  refine List.forall_mem_cons.mpr ⟨ze_iald (by decide +kernel), ?_⟩
  refine List.forall_mem_cons.mpr ⟨ze_iload_n (k := 2) (by decide +kernel) rfl, ?_⟩
  refine List.forall_mem_cons.mpr ⟨ze_iadd (by decide +kernel), ?_⟩
  refine List.forall_mem_cons.mpr ⟨ze_iastoreF (by decide +kernel), ?_⟩
  refine List.forall_mem_cons.mpr ⟨ze_aload_n (k := 0) (by decide +kernel) rfl, ?_⟩
  refine List.forall_mem_cons.mpr ⟨ze_dup (by decide +kernel), ?_⟩
  refine List.forall_mem_cons.mpr ⟨ze_getI (by decide +kernel) fl_X12_316 rfl, ?_⟩
  refine List.forall_mem_cons.mpr ⟨ze_iload_n (k := 2) (by decide +kernel) rfl, ?_⟩
  refine List.forall_mem_cons.mpr ⟨ze_iadd (by decide +kernel), ?_⟩
  refine List.forall_mem_cons.mpr ⟨ze_putI (by decide +kernel) fl_X12_316 ⟨_, _, _, rfl, rfl, by decide +kernel⟩ rfl, ?_⟩
  refine List.forall_mem_cons.mpr ⟨ze_vret (by decide +kernel) rfl, ?_⟩
  exact fun _ h => absurd h List.not_mem_nil
theorem vX12_pays {l : Launch} {G : GT} {d : Nat} {av : List Value} {Q : Po} {σ : Mm} (cs : List (Nat × List Nat)) (k : Nat) (h : vc l G d mX12_pays TX12_pays Q cs k TX12_pays (lv_args 0 av) [] σ) (hlen : (lg_sl av).length ≤ mX12_pays.2.2.1 := by exact Nat.le_of_ble_eq_true rfl) : MW l G d mX12_pays av σ Q := mw_vc TX12_pays_ok mc_X12_pays rfl hlen cs k rfl h
theorem wX12_pays {l : Launch} {G : GT} {d : Nat} {Q : Po} {pc : Nat} {lv : Lv} {st : List Value} {σ : Mm} (cs : List (Nat × List Nat)) (k : Nat) (h : vc l G d mX12_pays TX12_pays Q cs k (drp TX12_pays pc) lv st σ) (hpc : hdp (drp TX12_pays pc) = pc := by rfl) : Wp l G d mX12_pays pc lv st σ Q := wp_vc TX12_pays_ok cs k hpc h
def TX12_runsOut : List In := [(0, 1, zt_aload 1), (1, 2, zt_ic 0), (2, 3, zt_iald), (3, 4, zt_istoreF 2), (4, 5, zt_aload 0), (5, 8, zt_getL 20 30), (8, 9, zt_iload 2), (9, 10, zt_iald), (10, 11, zt_aload 0), (11, 14, zt_getL 20 28), (14, 15, zt_iload 2), (15, 16, zt_iald), (16, 17, zt_isub), (17, 18, zt_istoreF 3), (18, 19, zt_aload 1), (19, 21, zt_ic 9), (21, 22, zt_dup2), (22, 23, zt_iald), (23, 24, zt_iload 3), (24, 25, zt_iadd), (25, 26, zt_iastoreF), (26, 27, zt_aload 1), (27, 28, zt_ic 4), (28, 29, zt_iald), (29, 30, zt_ic 1), (30, 33, zt_icmp_ne 52), (33, 34, zt_aload 0), (34, 35, zt_aload 1), (35, 36, zt_aload 0), (36, 39, zt_getL 20 30), (39, 40, zt_iload 2), (40, 41, zt_iald), (41, 44, zt_callVF mX12_pays 2 20), (44, 45, zt_aload 1), (45, 47, zt_ic 6), (47, 48, zt_ic 1), (48, 49, zt_iastoreF), (49, 52, zt_goto 107), (52, 53, zt_aload 0), (53, 54, zt_aload 1), (54, 55, zt_iload 3), (55, 56, zt_aload 0), (56, 59, zt_getL 20 6), (59, 61, zt_ic 13), (61, 62, zt_iald), (62, 63, zt_iadd), (63, 66, zt_callVF mX12_pays 2 20), (66, 67, zt_aload 1), (67, 69, zt_ic 10), (69, 70, zt_dup2), (70, 71, zt_iald), (71, 72, zt_aload 0), (72, 75, zt_getL 20 6), (75, 77, zt_ic 13), (77, 78, zt_iald), (78, 79, zt_iadd), (79, 80, zt_iastoreF), (80, 81, zt_aload 1), (81, 82, zt_ic 2), (82, 83, zt_aload 0), (83, 84, zt_aload 1), (84, 85, zt_iload 2), (85, 86, zt_aload 1), (86, 87, zt_ic 1), (87, 88, zt_iald), (88, 91, zt_callVF mX12_newCoupon 3 20), (91, 92, zt_iastoreF), (92, 93, zt_aload 1), (93, 94, zt_ic 3), (94, 95, zt_dup2), (95, 96, zt_iald), (96, 97, zt_ic 1), (97, 98, zt_isub), (98, 99, zt_iastoreF), (99, 100, zt_aload 1), (100, 102, zt_ic 11), (102, 103, zt_dup2), (103, 104, zt_iald), (104, 105, zt_ic 1), (105, 106, zt_iadd), (106, 107, zt_iastoreF), (107, 108, zt_aload 1), (108, 109, zt_ic 4), (109, 110, zt_ic 0), (110, 111, zt_iastoreF), (111, 112, zt_aload 1), (112, 113, zt_ic 5), (113, 114, zt_ic 0), (114, 115, zt_iastoreF), (115, 116, zt_vret)]
theorem TX12_runsOut_ok : ∀ i ∈ TX12_runsOut, Ent mX12_runsOut i := by
  refine List.forall_mem_cons.mpr ⟨ze_aload_n (k := 1) (by decide +kernel) rfl, ?_⟩
  refine List.forall_mem_cons.mpr ⟨ze_iconst (n := 0) (by decide +kernel) (by decide), ?_⟩
  refine List.forall_mem_cons.mpr ⟨ze_iald (by decide +kernel), ?_⟩
  refine List.forall_mem_cons.mpr ⟨ze_istoreF_n (k := 2) (by decide +kernel) rfl (by decide), ?_⟩
  refine List.forall_mem_cons.mpr ⟨ze_aload_n (k := 0) (by decide +kernel) rfl, ?_⟩
  refine List.forall_mem_cons.mpr ⟨ze_getL (by decide +kernel) fl_X12_56 rfl (by decide), ?_⟩
  refine List.forall_mem_cons.mpr ⟨ze_iload_n (k := 2) (by decide +kernel) rfl, ?_⟩
  refine List.forall_mem_cons.mpr ⟨ze_iald (by decide +kernel), ?_⟩
  refine List.forall_mem_cons.mpr ⟨ze_aload_n (k := 0) (by decide +kernel) rfl, ?_⟩
  refine List.forall_mem_cons.mpr ⟨ze_getL (by decide +kernel) fl_X12_50 rfl (by decide), ?_⟩
  refine List.forall_mem_cons.mpr ⟨ze_iload_n (k := 2) (by decide +kernel) rfl, ?_⟩
  refine List.forall_mem_cons.mpr ⟨ze_iald (by decide +kernel), ?_⟩
  refine List.forall_mem_cons.mpr ⟨ze_isub (by decide +kernel), ?_⟩
  refine List.forall_mem_cons.mpr ⟨ze_istoreF_n (k := 3) (by decide +kernel) rfl (by decide), ?_⟩
  refine List.forall_mem_cons.mpr ⟨ze_aload_n (k := 1) (by decide +kernel) rfl, ?_⟩
  refine List.forall_mem_cons.mpr ⟨ze_bipush (n := 9) (by decide +kernel) (by decide), ?_⟩
  refine List.forall_mem_cons.mpr ⟨ze_dup2 (by decide +kernel), ?_⟩
  refine List.forall_mem_cons.mpr ⟨ze_iald (by decide +kernel), ?_⟩
  refine List.forall_mem_cons.mpr ⟨ze_iload_n (k := 3) (by decide +kernel) rfl, ?_⟩
  refine List.forall_mem_cons.mpr ⟨ze_iadd (by decide +kernel), ?_⟩
  refine List.forall_mem_cons.mpr ⟨ze_iastoreF (by decide +kernel), ?_⟩
  refine List.forall_mem_cons.mpr ⟨ze_aload_n (k := 1) (by decide +kernel) rfl, ?_⟩
  refine List.forall_mem_cons.mpr ⟨ze_iconst (n := 4) (by decide +kernel) (by decide), ?_⟩
  refine List.forall_mem_cons.mpr ⟨ze_iald (by decide +kernel), ?_⟩
  refine List.forall_mem_cons.mpr ⟨ze_iconst (n := 1) (by decide +kernel) (by decide), ?_⟩
  refine List.forall_mem_cons.mpr ⟨ze_icmp_ne (off := 22) (by decide +kernel) (by decide), ?_⟩
  refine List.forall_mem_cons.mpr ⟨ze_aload_n (k := 0) (by decide +kernel) rfl, ?_⟩
  refine List.forall_mem_cons.mpr ⟨ze_aload_n (k := 1) (by decide +kernel) rfl, ?_⟩
  refine List.forall_mem_cons.mpr ⟨ze_aload_n (k := 0) (by decide +kernel) rfl, ?_⟩
  refine List.forall_mem_cons.mpr ⟨ze_getL (by decide +kernel) fl_X12_56 rfl (by decide), ?_⟩
  refine List.forall_mem_cons.mpr ⟨ze_iload_n (k := 2) (by decide +kernel) rfl, ?_⟩
  refine List.forall_mem_cons.mpr ⟨ze_iald (by decide +kernel), ?_⟩
  refine List.forall_mem_cons.mpr ⟨ze_callVF (idx := 319) (by decide +kernel) ml_X12_319 mv_X12_pays rfl, ?_⟩
  refine List.forall_mem_cons.mpr ⟨ze_aload_n (k := 1) (by decide +kernel) rfl, ?_⟩
  refine List.forall_mem_cons.mpr ⟨ze_bipush (n := 6) (by decide +kernel) (by decide), ?_⟩
  refine List.forall_mem_cons.mpr ⟨ze_iconst (n := 1) (by decide +kernel) (by decide), ?_⟩
  refine List.forall_mem_cons.mpr ⟨ze_iastoreF (by decide +kernel), ?_⟩
  refine List.forall_mem_cons.mpr ⟨ze_goto (off := 58) (by decide +kernel) (by decide), ?_⟩
  refine List.forall_mem_cons.mpr ⟨ze_aload_n (k := 0) (by decide +kernel) rfl, ?_⟩
  refine List.forall_mem_cons.mpr ⟨ze_aload_n (k := 1) (by decide +kernel) rfl, ?_⟩
  refine List.forall_mem_cons.mpr ⟨ze_iload_n (k := 3) (by decide +kernel) rfl, ?_⟩
  refine List.forall_mem_cons.mpr ⟨ze_aload_n (k := 0) (by decide +kernel) rfl, ?_⟩
  refine List.forall_mem_cons.mpr ⟨ze_getL (by decide +kernel) fl_X12_17 rfl (by decide), ?_⟩
  refine List.forall_mem_cons.mpr ⟨ze_bipush (n := 13) (by decide +kernel) (by decide), ?_⟩
  refine List.forall_mem_cons.mpr ⟨ze_iald (by decide +kernel), ?_⟩
  refine List.forall_mem_cons.mpr ⟨ze_iadd (by decide +kernel), ?_⟩
  refine List.forall_mem_cons.mpr ⟨ze_callVF (idx := 319) (by decide +kernel) ml_X12_319 mv_X12_pays rfl, ?_⟩
  refine List.forall_mem_cons.mpr ⟨ze_aload_n (k := 1) (by decide +kernel) rfl, ?_⟩
  refine List.forall_mem_cons.mpr ⟨ze_bipush (n := 10) (by decide +kernel) (by decide), ?_⟩
  refine List.forall_mem_cons.mpr ⟨ze_dup2 (by decide +kernel), ?_⟩
  refine List.forall_mem_cons.mpr ⟨ze_iald (by decide +kernel), ?_⟩
  refine List.forall_mem_cons.mpr ⟨ze_aload_n (k := 0) (by decide +kernel) rfl, ?_⟩
  refine List.forall_mem_cons.mpr ⟨ze_getL (by decide +kernel) fl_X12_17 rfl (by decide), ?_⟩
  refine List.forall_mem_cons.mpr ⟨ze_bipush (n := 13) (by decide +kernel) (by decide), ?_⟩
  refine List.forall_mem_cons.mpr ⟨ze_iald (by decide +kernel), ?_⟩
  refine List.forall_mem_cons.mpr ⟨ze_iadd (by decide +kernel), ?_⟩
  refine List.forall_mem_cons.mpr ⟨ze_iastoreF (by decide +kernel), ?_⟩
  refine List.forall_mem_cons.mpr ⟨ze_aload_n (k := 1) (by decide +kernel) rfl, ?_⟩
  refine List.forall_mem_cons.mpr ⟨ze_iconst (n := 2) (by decide +kernel) (by decide), ?_⟩
  refine List.forall_mem_cons.mpr ⟨ze_aload_n (k := 0) (by decide +kernel) rfl, ?_⟩
  refine List.forall_mem_cons.mpr ⟨ze_aload_n (k := 1) (by decide +kernel) rfl, ?_⟩
  refine List.forall_mem_cons.mpr ⟨ze_iload_n (k := 2) (by decide +kernel) rfl, ?_⟩
  refine List.forall_mem_cons.mpr ⟨ze_aload_n (k := 1) (by decide +kernel) rfl, ?_⟩
  refine List.forall_mem_cons.mpr ⟨ze_iconst (n := 1) (by decide +kernel) (by decide), ?_⟩
  refine List.forall_mem_cons.mpr ⟨ze_iald (by decide +kernel), ?_⟩
  refine List.forall_mem_cons.mpr ⟨ze_callVF (idx := 293) (by decide +kernel) ml_X12_293 mv_X12_newCoupon rfl, ?_⟩
  refine List.forall_mem_cons.mpr ⟨ze_iastoreF (by decide +kernel), ?_⟩
  refine List.forall_mem_cons.mpr ⟨ze_aload_n (k := 1) (by decide +kernel) rfl, ?_⟩
  refine List.forall_mem_cons.mpr ⟨ze_iconst (n := 3) (by decide +kernel) (by decide), ?_⟩
  refine List.forall_mem_cons.mpr ⟨ze_dup2 (by decide +kernel), ?_⟩
  refine List.forall_mem_cons.mpr ⟨ze_iald (by decide +kernel), ?_⟩
  refine List.forall_mem_cons.mpr ⟨ze_iconst (n := 1) (by decide +kernel) (by decide), ?_⟩
  refine List.forall_mem_cons.mpr ⟨ze_isub (by decide +kernel), ?_⟩
  refine List.forall_mem_cons.mpr ⟨ze_iastoreF (by decide +kernel), ?_⟩
  refine List.forall_mem_cons.mpr ⟨ze_aload_n (k := 1) (by decide +kernel) rfl, ?_⟩
  refine List.forall_mem_cons.mpr ⟨ze_bipush (n := 11) (by decide +kernel) (by decide), ?_⟩
  refine List.forall_mem_cons.mpr ⟨ze_dup2 (by decide +kernel), ?_⟩
  refine List.forall_mem_cons.mpr ⟨ze_iald (by decide +kernel), ?_⟩
  refine List.forall_mem_cons.mpr ⟨ze_iconst (n := 1) (by decide +kernel) (by decide), ?_⟩
  refine List.forall_mem_cons.mpr ⟨ze_iadd (by decide +kernel), ?_⟩
  refine List.forall_mem_cons.mpr ⟨ze_iastoreF (by decide +kernel), ?_⟩
  refine List.forall_mem_cons.mpr ⟨ze_aload_n (k := 1) (by decide +kernel) rfl, ?_⟩
  refine List.forall_mem_cons.mpr ⟨ze_iconst (n := 4) (by decide +kernel) (by decide), ?_⟩
  refine List.forall_mem_cons.mpr ⟨ze_iconst (n := 0) (by decide +kernel) (by decide), ?_⟩
  refine List.forall_mem_cons.mpr ⟨ze_iastoreF (by decide +kernel), ?_⟩
  refine List.forall_mem_cons.mpr ⟨ze_aload_n (k := 1) (by decide +kernel) rfl, ?_⟩
  refine List.forall_mem_cons.mpr ⟨ze_iconst (n := 5) (by decide +kernel) (by decide), ?_⟩
  refine List.forall_mem_cons.mpr ⟨ze_iconst (n := 0) (by decide +kernel) (by decide), ?_⟩
  refine List.forall_mem_cons.mpr ⟨ze_iastoreF (by decide +kernel), ?_⟩
  refine List.forall_mem_cons.mpr ⟨ze_vret (by decide +kernel) rfl, ?_⟩
  exact fun _ h => absurd h List.not_mem_nil
theorem vX12_runsOut {l : Launch} {G : GT} {d : Nat} {av : List Value} {Q : Po} {σ : Mm} (cs : List (Nat × List Nat)) (k : Nat) (h : vc l G d mX12_runsOut TX12_runsOut Q cs k TX12_runsOut (lv_args 0 av) [] σ) (hlen : (lg_sl av).length ≤ mX12_runsOut.2.2.1 := by exact Nat.le_of_ble_eq_true rfl) : MW l G d mX12_runsOut av σ Q := mw_vc TX12_runsOut_ok mc_X12_runsOut rfl hlen cs k rfl h
theorem wX12_runsOut {l : Launch} {G : GT} {d : Nat} {Q : Po} {pc : Nat} {lv : Lv} {st : List Value} {σ : Mm} (cs : List (Nat × List Nat)) (k : Nat) (h : vc l G d mX12_runsOut TX12_runsOut Q cs k (drp TX12_runsOut pc) lv st σ) (hpc : hdp (drp TX12_runsOut pc) = pc := by rfl) : Wp l G d mX12_runsOut pc lv st σ Q := wp_vc TX12_runsOut_ok cs k hpc h
def TX12_givesNotice : List In := [(0, 1, zt_aload 0), (1, 2, zt_ic 0), (2, 5, zt_putI 20 33), (5, 6, zt_aload 1), (6, 7, zt_ic 4), (7, 8, zt_iload 2), (8, 9, zt_iastoreF), (9, 10, zt_aload 1), (10, 11, zt_ic 5), (11, 12, zt_aload 0), (12, 15, zt_getL 20 6), (15, 17, zt_ic 10), (17, 18, zt_iald), (18, 19, zt_iastoreF), (19, 20, zt_aload 0), (20, 23, zt_getL 20 6), (23, 25, zt_ic 10), (25, 26, zt_iald), (26, 29, zt_if_ne 34), (29, 30, zt_aload 0), (30, 31, zt_aload 1), (31, 34, zt_callVF mX12_runsOut 1 20), (34, 35, zt_vret)]
theorem TX12_givesNotice_ok : ∀ i ∈ TX12_givesNotice, Ent mX12_givesNotice i := by
  refine List.forall_mem_cons.mpr ⟨ze_aload_n (k := 0) (by decide +kernel) rfl, ?_⟩
  refine List.forall_mem_cons.mpr ⟨ze_iconst (n := 0) (by decide +kernel) (by decide), ?_⟩
  refine List.forall_mem_cons.mpr ⟨ze_putI (by decide +kernel) fl_X12_316 ⟨_, _, _, rfl, rfl, by decide +kernel⟩ rfl, ?_⟩
  refine List.forall_mem_cons.mpr ⟨ze_aload_n (k := 1) (by decide +kernel) rfl, ?_⟩
  refine List.forall_mem_cons.mpr ⟨ze_iconst (n := 4) (by decide +kernel) (by decide), ?_⟩
  refine List.forall_mem_cons.mpr ⟨ze_iload_n (k := 2) (by decide +kernel) rfl, ?_⟩
  refine List.forall_mem_cons.mpr ⟨ze_iastoreF (by decide +kernel), ?_⟩
  refine List.forall_mem_cons.mpr ⟨ze_aload_n (k := 1) (by decide +kernel) rfl, ?_⟩
  refine List.forall_mem_cons.mpr ⟨ze_iconst (n := 5) (by decide +kernel) (by decide), ?_⟩
  refine List.forall_mem_cons.mpr ⟨ze_aload_n (k := 0) (by decide +kernel) rfl, ?_⟩
  refine List.forall_mem_cons.mpr ⟨ze_getL (by decide +kernel) fl_X12_17 rfl (by decide), ?_⟩
  refine List.forall_mem_cons.mpr ⟨ze_bipush (n := 10) (by decide +kernel) (by decide), ?_⟩
  refine List.forall_mem_cons.mpr ⟨ze_iald (by decide +kernel), ?_⟩
  refine List.forall_mem_cons.mpr ⟨ze_iastoreF (by decide +kernel), ?_⟩
  refine List.forall_mem_cons.mpr ⟨ze_aload_n (k := 0) (by decide +kernel) rfl, ?_⟩
  refine List.forall_mem_cons.mpr ⟨ze_getL (by decide +kernel) fl_X12_17 rfl (by decide), ?_⟩
  refine List.forall_mem_cons.mpr ⟨ze_bipush (n := 10) (by decide +kernel) (by decide), ?_⟩
  refine List.forall_mem_cons.mpr ⟨ze_iald (by decide +kernel), ?_⟩
  refine List.forall_mem_cons.mpr ⟨ze_if_ne (off := 8) (by decide +kernel) (by decide), ?_⟩
  refine List.forall_mem_cons.mpr ⟨ze_aload_n (k := 0) (by decide +kernel) rfl, ?_⟩
  refine List.forall_mem_cons.mpr ⟨ze_aload_n (k := 1) (by decide +kernel) rfl, ?_⟩
  refine List.forall_mem_cons.mpr ⟨ze_callVF (idx := 323) (by decide +kernel) ml_X12_323 mv_X12_runsOut rfl, ?_⟩
  refine List.forall_mem_cons.mpr ⟨ze_vret (by decide +kernel) rfl, ?_⟩
  exact fun _ h => absurd h List.not_mem_nil
theorem vX12_givesNotice {l : Launch} {G : GT} {d : Nat} {av : List Value} {Q : Po} {σ : Mm} (cs : List (Nat × List Nat)) (k : Nat) (h : vc l G d mX12_givesNotice TX12_givesNotice Q cs k TX12_givesNotice (lv_args 0 av) [] σ) (hlen : (lg_sl av).length ≤ mX12_givesNotice.2.2.1 := by exact Nat.le_of_ble_eq_true rfl) : MW l G d mX12_givesNotice av σ Q := mw_vc TX12_givesNotice_ok mc_X12_givesNotice rfl hlen cs k rfl h
theorem wX12_givesNotice {l : Launch} {G : GT} {d : Nat} {Q : Po} {pc : Nat} {lv : Lv} {st : List Value} {σ : Mm} (cs : List (Nat × List Nat)) (k : Nat) (h : vc l G d mX12_givesNotice TX12_givesNotice Q cs k (drp TX12_givesNotice pc) lv st σ) (hpc : hdp (drp TX12_givesNotice pc) = pc := by rfl) : Wp l G d mX12_givesNotice pc lv st σ Q := wp_vc TX12_givesNotice_ok cs k hpc h
def TX12_passes : List In := [(0, 1, zt_aload 0), (1, 2, zt_ic 0), (2, 5, zt_putI 20 33), (5, 6, zt_aload 1), (6, 7, zt_ic 0), (7, 8, zt_dup2), (8, 9, zt_iald), (9, 10, zt_ic 1), (10, 11, zt_iadd), (11, 12, zt_iastoreF), (12, 13, zt_aload 1), (13, 14, zt_ic 1), (14, 15, zt_dup2), (15, 16, zt_iald), (16, 17, zt_iload 2), (17, 18, zt_iadd), (18, 19, zt_iastoreF), (19, 20, zt_aload 0), (20, 21, zt_aload 1), (21, 22, zt_aload 0), (22, 23, zt_aload 1), (23, 24, zt_ic 2), (24, 25, zt_iald), (25, 26, zt_aload 1), (26, 27, zt_ic 0), (27, 28, zt_iald), (28, 31, zt_callVF mX12_due 2 20), (31, 34, zt_callVF mX12_pays 2 20), (34, 35, zt_aload 1), (35, 37, zt_ic 8), (37, 38, zt_dup2), (38, 39, zt_iald), (39, 40, zt_aload 0), (40, 41, zt_aload 1), (41, 42, zt_ic 2), (42, 43, zt_iald), (43, 44, zt_aload 1), (44, 45, zt_ic 0), (45, 46, zt_iald), (46, 49, zt_callVF mX12_interest 2 20), (49, 50, zt_iadd), (50, 51, zt_iastoreF), (51, 52, zt_aload 1), (52, 53, zt_ic 4), (53, 54, zt_iald), (54, 57, zt_if_eq 75), (57, 58, zt_aload 1), (58, 59, zt_ic 5), (59, 60, zt_dup2), (60, 61, zt_iald), (61, 62, zt_ic 1), (62, 63, zt_isub), (63, 64, zt_iastoreF), (64, 65, zt_aload 1), (65, 66, zt_ic 5), (66, 67, zt_iald), (67, 70, zt_if_ne 75), (70, 71, zt_aload 0), (71, 72, zt_aload 1), (72, 75, zt_callVF mX12_runsOut 1 20), (75, 76, zt_aload 1), (76, 77, zt_ic 0), (77, 78, zt_iald), (78, 79, zt_aload 0), (79, 82, zt_getL 20 6), (82, 83, zt_ic 1), (83, 84, zt_iald), (84, 87, zt_icmp_ne 92), (87, 88, zt_aload 1), (88, 90, zt_ic 6), (90, 91, zt_ic 1), (91, 92, zt_iastoreF), (92, 93, zt_vret)]
theorem TX12_passes_ok : ∀ i ∈ TX12_passes, Ent mX12_passes i := by
  refine List.forall_mem_cons.mpr ⟨ze_aload_n (k := 0) (by decide +kernel) rfl, ?_⟩
  refine List.forall_mem_cons.mpr ⟨ze_iconst (n := 0) (by decide +kernel) (by decide), ?_⟩
  refine List.forall_mem_cons.mpr ⟨ze_putI (by decide +kernel) fl_X12_316 ⟨_, _, _, rfl, rfl, by decide +kernel⟩ rfl, ?_⟩
  refine List.forall_mem_cons.mpr ⟨ze_aload_n (k := 1) (by decide +kernel) rfl, ?_⟩
  refine List.forall_mem_cons.mpr ⟨ze_iconst (n := 0) (by decide +kernel) (by decide), ?_⟩
  refine List.forall_mem_cons.mpr ⟨ze_dup2 (by decide +kernel), ?_⟩
  refine List.forall_mem_cons.mpr ⟨ze_iald (by decide +kernel), ?_⟩
  refine List.forall_mem_cons.mpr ⟨ze_iconst (n := 1) (by decide +kernel) (by decide), ?_⟩
  refine List.forall_mem_cons.mpr ⟨ze_iadd (by decide +kernel), ?_⟩
  refine List.forall_mem_cons.mpr ⟨ze_iastoreF (by decide +kernel), ?_⟩
  refine List.forall_mem_cons.mpr ⟨ze_aload_n (k := 1) (by decide +kernel) rfl, ?_⟩
  refine List.forall_mem_cons.mpr ⟨ze_iconst (n := 1) (by decide +kernel) (by decide), ?_⟩
  refine List.forall_mem_cons.mpr ⟨ze_dup2 (by decide +kernel), ?_⟩
  refine List.forall_mem_cons.mpr ⟨ze_iald (by decide +kernel), ?_⟩
  refine List.forall_mem_cons.mpr ⟨ze_iload_n (k := 2) (by decide +kernel) rfl, ?_⟩
  refine List.forall_mem_cons.mpr ⟨ze_iadd (by decide +kernel), ?_⟩
  refine List.forall_mem_cons.mpr ⟨ze_iastoreF (by decide +kernel), ?_⟩
  refine List.forall_mem_cons.mpr ⟨ze_aload_n (k := 0) (by decide +kernel) rfl, ?_⟩
  refine List.forall_mem_cons.mpr ⟨ze_aload_n (k := 1) (by decide +kernel) rfl, ?_⟩
  refine List.forall_mem_cons.mpr ⟨ze_aload_n (k := 0) (by decide +kernel) rfl, ?_⟩
  refine List.forall_mem_cons.mpr ⟨ze_aload_n (k := 1) (by decide +kernel) rfl, ?_⟩
  refine List.forall_mem_cons.mpr ⟨ze_iconst (n := 2) (by decide +kernel) (by decide), ?_⟩
  refine List.forall_mem_cons.mpr ⟨ze_iald (by decide +kernel), ?_⟩
  refine List.forall_mem_cons.mpr ⟨ze_aload_n (k := 1) (by decide +kernel) rfl, ?_⟩
  refine List.forall_mem_cons.mpr ⟨ze_iconst (n := 0) (by decide +kernel) (by decide), ?_⟩
  refine List.forall_mem_cons.mpr ⟨ze_iald (by decide +kernel), ?_⟩
  refine List.forall_mem_cons.mpr ⟨ze_callVF (idx := 250) (by decide +kernel) ml_X12_250 mv_X12_due rfl, ?_⟩
  refine List.forall_mem_cons.mpr ⟨ze_callVF (idx := 319) (by decide +kernel) ml_X12_319 mv_X12_pays rfl, ?_⟩
  refine List.forall_mem_cons.mpr ⟨ze_aload_n (k := 1) (by decide +kernel) rfl, ?_⟩
  refine List.forall_mem_cons.mpr ⟨ze_bipush (n := 8) (by decide +kernel) (by decide), ?_⟩
  refine List.forall_mem_cons.mpr ⟨ze_dup2 (by decide +kernel), ?_⟩
  refine List.forall_mem_cons.mpr ⟨ze_iald (by decide +kernel), ?_⟩
  refine List.forall_mem_cons.mpr ⟨ze_aload_n (k := 0) (by decide +kernel) rfl, ?_⟩
  refine List.forall_mem_cons.mpr ⟨ze_aload_n (k := 1) (by decide +kernel) rfl, ?_⟩
  refine List.forall_mem_cons.mpr ⟨ze_iconst (n := 2) (by decide +kernel) (by decide), ?_⟩
  refine List.forall_mem_cons.mpr ⟨ze_iald (by decide +kernel), ?_⟩
  refine List.forall_mem_cons.mpr ⟨ze_aload_n (k := 1) (by decide +kernel) rfl, ?_⟩
  refine List.forall_mem_cons.mpr ⟨ze_iconst (n := 0) (by decide +kernel) (by decide), ?_⟩
  refine List.forall_mem_cons.mpr ⟨ze_iald (by decide +kernel), ?_⟩
  refine List.forall_mem_cons.mpr ⟨ze_callVF (idx := 241) (by decide +kernel) ml_X12_241 mv_X12_interest rfl, ?_⟩
  refine List.forall_mem_cons.mpr ⟨ze_iadd (by decide +kernel), ?_⟩
  refine List.forall_mem_cons.mpr ⟨ze_iastoreF (by decide +kernel), ?_⟩
  refine List.forall_mem_cons.mpr ⟨ze_aload_n (k := 1) (by decide +kernel) rfl, ?_⟩
  refine List.forall_mem_cons.mpr ⟨ze_iconst (n := 4) (by decide +kernel) (by decide), ?_⟩
  refine List.forall_mem_cons.mpr ⟨ze_iald (by decide +kernel), ?_⟩
  refine List.forall_mem_cons.mpr ⟨ze_if_eq (off := 21) (by decide +kernel) (by decide), ?_⟩
  refine List.forall_mem_cons.mpr ⟨ze_aload_n (k := 1) (by decide +kernel) rfl, ?_⟩
  refine List.forall_mem_cons.mpr ⟨ze_iconst (n := 5) (by decide +kernel) (by decide), ?_⟩
  refine List.forall_mem_cons.mpr ⟨ze_dup2 (by decide +kernel), ?_⟩
  refine List.forall_mem_cons.mpr ⟨ze_iald (by decide +kernel), ?_⟩
  refine List.forall_mem_cons.mpr ⟨ze_iconst (n := 1) (by decide +kernel) (by decide), ?_⟩
  refine List.forall_mem_cons.mpr ⟨ze_isub (by decide +kernel), ?_⟩
  refine List.forall_mem_cons.mpr ⟨ze_iastoreF (by decide +kernel), ?_⟩
  refine List.forall_mem_cons.mpr ⟨ze_aload_n (k := 1) (by decide +kernel) rfl, ?_⟩
  refine List.forall_mem_cons.mpr ⟨ze_iconst (n := 5) (by decide +kernel) (by decide), ?_⟩
  refine List.forall_mem_cons.mpr ⟨ze_iald (by decide +kernel), ?_⟩
  refine List.forall_mem_cons.mpr ⟨ze_if_ne (off := 8) (by decide +kernel) (by decide), ?_⟩
  refine List.forall_mem_cons.mpr ⟨ze_aload_n (k := 0) (by decide +kernel) rfl, ?_⟩
  refine List.forall_mem_cons.mpr ⟨ze_aload_n (k := 1) (by decide +kernel) rfl, ?_⟩
  refine List.forall_mem_cons.mpr ⟨ze_callVF (idx := 323) (by decide +kernel) ml_X12_323 mv_X12_runsOut rfl, ?_⟩
  refine List.forall_mem_cons.mpr ⟨ze_aload_n (k := 1) (by decide +kernel) rfl, ?_⟩
  refine List.forall_mem_cons.mpr ⟨ze_iconst (n := 0) (by decide +kernel) (by decide), ?_⟩
  refine List.forall_mem_cons.mpr ⟨ze_iald (by decide +kernel), ?_⟩
  refine List.forall_mem_cons.mpr ⟨ze_aload_n (k := 0) (by decide +kernel) rfl, ?_⟩
  refine List.forall_mem_cons.mpr ⟨ze_getL (by decide +kernel) fl_X12_17 rfl (by decide), ?_⟩
  refine List.forall_mem_cons.mpr ⟨ze_iconst (n := 1) (by decide +kernel) (by decide), ?_⟩
  refine List.forall_mem_cons.mpr ⟨ze_iald (by decide +kernel), ?_⟩
  refine List.forall_mem_cons.mpr ⟨ze_icmp_ne (off := 8) (by decide +kernel) (by decide), ?_⟩
  refine List.forall_mem_cons.mpr ⟨ze_aload_n (k := 1) (by decide +kernel) rfl, ?_⟩
  refine List.forall_mem_cons.mpr ⟨ze_bipush (n := 6) (by decide +kernel) (by decide), ?_⟩
  refine List.forall_mem_cons.mpr ⟨ze_iconst (n := 1) (by decide +kernel) (by decide), ?_⟩
  refine List.forall_mem_cons.mpr ⟨ze_iastoreF (by decide +kernel), ?_⟩
  refine List.forall_mem_cons.mpr ⟨ze_vret (by decide +kernel) rfl, ?_⟩
  exact fun _ h => absurd h List.not_mem_nil
theorem vX12_passes {l : Launch} {G : GT} {d : Nat} {av : List Value} {Q : Po} {σ : Mm} (cs : List (Nat × List Nat)) (k : Nat) (h : vc l G d mX12_passes TX12_passes Q cs k TX12_passes (lv_args 0 av) [] σ) (hlen : (lg_sl av).length ≤ mX12_passes.2.2.1 := by exact Nat.le_of_ble_eq_true rfl) : MW l G d mX12_passes av σ Q := mw_vc TX12_passes_ok mc_X12_passes rfl hlen cs k rfl h
theorem wX12_passes {l : Launch} {G : GT} {d : Nat} {Q : Po} {pc : Nat} {lv : Lv} {st : List Value} {σ : Mm} (cs : List (Nat × List Nat)) (k : Nat) (h : vc l G d mX12_passes TX12_passes Q cs k (drp TX12_passes pc) lv st σ) (hpc : hdp (drp TX12_passes pc) = pc := by rfl) : Wp l G d mX12_passes pc lv st σ Q := wp_vc TX12_passes_ok cs k hpc h
def TX12_bestHere : List In := [(0, 1, zt_aload 0), (1, 2, zt_ic 0), (2, 5, zt_putI 20 27), (5, 6, zt_aload 0), (6, 7, zt_aload 1), (7, 8, zt_aload 0), (8, 11, zt_getL 20 35), (11, 12, zt_ic 0), (12, 13, zt_aload 1), (13, 14, zt_ic 2), (14, 15, zt_iald), (15, 16, zt_aload 1), (16, 17, zt_ic 3), (17, 18, zt_iald), (18, 21, zt_callVF mX12_lays 5 20), (21, 22, zt_aload 0), (22, 23, zt_aload 1), (23, 24, zt_aload 0), (24, 27, zt_getL 20 35), (27, 28, zt_aload 1), (28, 29, zt_ic 3), (29, 30, zt_iald), (30, 31, zt_ic 0), (31, 32, zt_aload 1), (32, 33, zt_ic 2), (33, 34, zt_iald), (34, 35, zt_aload 1), (35, 36, zt_ic 0), (36, 37, zt_iald), (37, 38, zt_aload 1), (38, 39, zt_ic 1), (39, 40, zt_iald), (40, 43, zt_callVF mX12_bestDeed 7 20), (43, 44, zt_iret)]
theorem TX12_bestHere_ok : ∀ i ∈ TX12_bestHere, Ent mX12_bestHere i := by
  refine List.forall_mem_cons.mpr ⟨ze_aload_n (k := 0) (by decide +kernel) rfl, ?_⟩
  refine List.forall_mem_cons.mpr ⟨ze_iconst (n := 0) (by decide +kernel) (by decide), ?_⟩
  refine List.forall_mem_cons.mpr ⟨ze_putI (by decide +kernel) fl_X12_234 ⟨_, _, _, rfl, rfl, by decide +kernel⟩ rfl, ?_⟩
  refine List.forall_mem_cons.mpr ⟨ze_aload_n (k := 0) (by decide +kernel) rfl, ?_⟩
  refine List.forall_mem_cons.mpr ⟨ze_aload_n (k := 1) (by decide +kernel) rfl, ?_⟩
  refine List.forall_mem_cons.mpr ⟨ze_aload_n (k := 0) (by decide +kernel) rfl, ?_⟩
  refine List.forall_mem_cons.mpr ⟨ze_getL (by decide +kernel) fl_X12_67 rfl (by decide), ?_⟩
  refine List.forall_mem_cons.mpr ⟨ze_iconst (n := 0) (by decide +kernel) (by decide), ?_⟩
  refine List.forall_mem_cons.mpr ⟨ze_aload_n (k := 1) (by decide +kernel) rfl, ?_⟩
  refine List.forall_mem_cons.mpr ⟨ze_iconst (n := 2) (by decide +kernel) (by decide), ?_⟩
  refine List.forall_mem_cons.mpr ⟨ze_iald (by decide +kernel), ?_⟩
  refine List.forall_mem_cons.mpr ⟨ze_aload_n (k := 1) (by decide +kernel) rfl, ?_⟩
  refine List.forall_mem_cons.mpr ⟨ze_iconst (n := 3) (by decide +kernel) (by decide), ?_⟩
  refine List.forall_mem_cons.mpr ⟨ze_iald (by decide +kernel), ?_⟩
  refine List.forall_mem_cons.mpr ⟨ze_callVF (idx := 300) (by decide +kernel) ml_X12_300 mv_X12_lays rfl, ?_⟩
  refine List.forall_mem_cons.mpr ⟨ze_aload_n (k := 0) (by decide +kernel) rfl, ?_⟩
  refine List.forall_mem_cons.mpr ⟨ze_aload_n (k := 1) (by decide +kernel) rfl, ?_⟩
  refine List.forall_mem_cons.mpr ⟨ze_aload_n (k := 0) (by decide +kernel) rfl, ?_⟩
  refine List.forall_mem_cons.mpr ⟨ze_getL (by decide +kernel) fl_X12_67 rfl (by decide), ?_⟩
  refine List.forall_mem_cons.mpr ⟨ze_aload_n (k := 1) (by decide +kernel) rfl, ?_⟩
  refine List.forall_mem_cons.mpr ⟨ze_iconst (n := 3) (by decide +kernel) (by decide), ?_⟩
  refine List.forall_mem_cons.mpr ⟨ze_iald (by decide +kernel), ?_⟩
  refine List.forall_mem_cons.mpr ⟨ze_iconst (n := 0) (by decide +kernel) (by decide), ?_⟩
  refine List.forall_mem_cons.mpr ⟨ze_aload_n (k := 1) (by decide +kernel) rfl, ?_⟩
  refine List.forall_mem_cons.mpr ⟨ze_iconst (n := 2) (by decide +kernel) (by decide), ?_⟩
  refine List.forall_mem_cons.mpr ⟨ze_iald (by decide +kernel), ?_⟩
  refine List.forall_mem_cons.mpr ⟨ze_aload_n (k := 1) (by decide +kernel) rfl, ?_⟩
  refine List.forall_mem_cons.mpr ⟨ze_iconst (n := 0) (by decide +kernel) (by decide), ?_⟩
  refine List.forall_mem_cons.mpr ⟨ze_iald (by decide +kernel), ?_⟩
  refine List.forall_mem_cons.mpr ⟨ze_aload_n (k := 1) (by decide +kernel) rfl, ?_⟩
  refine List.forall_mem_cons.mpr ⟨ze_iconst (n := 1) (by decide +kernel) (by decide), ?_⟩
  refine List.forall_mem_cons.mpr ⟨ze_iald (by decide +kernel), ?_⟩
  refine List.forall_mem_cons.mpr ⟨ze_callVF (idx := 285) (by decide +kernel) ml_X12_285 mv_X12_bestDeed rfl, ?_⟩
  refine List.forall_mem_cons.mpr ⟨ze_iret (by decide +kernel) rfl, ?_⟩
  exact fun _ h => absurd h List.not_mem_nil
theorem vX12_bestHere {l : Launch} {G : GT} {d : Nat} {av : List Value} {Q : Po} {σ : Mm} (cs : List (Nat × List Nat)) (k : Nat) (h : vc l G d mX12_bestHere TX12_bestHere Q cs k TX12_bestHere (lv_args 0 av) [] σ) (hlen : (lg_sl av).length ≤ mX12_bestHere.2.2.1 := by exact Nat.le_of_ble_eq_true rfl) : MW l G d mX12_bestHere av σ Q := mw_vc TX12_bestHere_ok mc_X12_bestHere rfl hlen cs k rfl h
theorem wX12_bestHere {l : Launch} {G : GT} {d : Nat} {Q : Po} {pc : Nat} {lv : Lv} {st : List Value} {σ : Mm} (cs : List (Nat × List Nat)) (k : Nat) (h : vc l G d mX12_bestHere TX12_bestHere Q cs k (drp TX12_bestHere pc) lv st σ) (hpc : hdp (drp TX12_bestHere pc) = pc := by rfl) : Wp l G d mX12_bestHere pc lv st σ Q := wp_vc TX12_bestHere_ok cs k hpc h
def TX12_doesBest : List In := [(0, 1, zt_aload 1), (1, 2, zt_ic 4), (2, 3, zt_iald), (3, 6, zt_if_ne 10), (6, 7, zt_iload 2), (7, 10, zt_if_ne 12), (10, 11, zt_ic 2), (11, 12, zt_iret), (12, 13, zt_aload 0), (13, 14, zt_aload 1), (14, 15, zt_iload 2), (15, 18, zt_callVF mX12_givesNotice 2 20), (18, 19, zt_aload 0), (19, 20, zt_iload 2), (20, 23, zt_putI 20 33), (23, 24, zt_aload 0), (24, 25, zt_iload 2), (25, 26, zt_ic 1), (26, 27, zt_iadd), (27, 30, zt_putI 20 34), (30, 31, zt_ic (-1)), (31, 32, zt_iret)]
theorem TX12_doesBest_ok : ∀ i ∈ TX12_doesBest, Ent mX12_doesBest i := by
  refine List.forall_mem_cons.mpr ⟨ze_aload_n (k := 1) (by decide +kernel) rfl, ?_⟩
  refine List.forall_mem_cons.mpr ⟨ze_iconst (n := 4) (by decide +kernel) (by decide), ?_⟩
  refine List.forall_mem_cons.mpr ⟨ze_iald (by decide +kernel), ?_⟩
  refine List.forall_mem_cons.mpr ⟨ze_if_ne (off := 7) (by decide +kernel) (by decide), ?_⟩
  refine List.forall_mem_cons.mpr ⟨ze_iload_n (k := 2) (by decide +kernel) rfl, ?_⟩
  refine List.forall_mem_cons.mpr ⟨ze_if_ne (off := 5) (by decide +kernel) (by decide), ?_⟩
  refine List.forall_mem_cons.mpr ⟨ze_iconst (n := 2) (by decide +kernel) (by decide), ?_⟩
  refine List.forall_mem_cons.mpr ⟨ze_iret (by decide +kernel) rfl, ?_⟩
  refine List.forall_mem_cons.mpr ⟨ze_aload_n (k := 0) (by decide +kernel) rfl, ?_⟩
  refine List.forall_mem_cons.mpr ⟨ze_aload_n (k := 1) (by decide +kernel) rfl, ?_⟩
  refine List.forall_mem_cons.mpr ⟨ze_iload_n (k := 2) (by decide +kernel) rfl, ?_⟩
  refine List.forall_mem_cons.mpr ⟨ze_callVF (idx := 326) (by decide +kernel) ml_X12_326 mv_X12_givesNotice rfl, ?_⟩
  refine List.forall_mem_cons.mpr ⟨ze_aload_n (k := 0) (by decide +kernel) rfl, ?_⟩
  refine List.forall_mem_cons.mpr ⟨ze_iload_n (k := 2) (by decide +kernel) rfl, ?_⟩
  refine List.forall_mem_cons.mpr ⟨ze_putI (by decide +kernel) fl_X12_316 ⟨_, _, _, rfl, rfl, by decide +kernel⟩ rfl, ?_⟩
  refine List.forall_mem_cons.mpr ⟨ze_aload_n (k := 0) (by decide +kernel) rfl, ?_⟩
  refine List.forall_mem_cons.mpr ⟨ze_iload_n (k := 2) (by decide +kernel) rfl, ?_⟩
  refine List.forall_mem_cons.mpr ⟨ze_iconst (n := 1) (by decide +kernel) (by decide), ?_⟩
  refine List.forall_mem_cons.mpr ⟨ze_iadd (by decide +kernel), ?_⟩
  refine List.forall_mem_cons.mpr ⟨ze_putI (by decide +kernel) fl_X12_329 ⟨_, _, _, rfl, rfl, by decide +kernel⟩ rfl, ?_⟩
  refine List.forall_mem_cons.mpr ⟨ze_iconst (n := -1) (by decide +kernel) (by decide), ?_⟩
  refine List.forall_mem_cons.mpr ⟨ze_iret (by decide +kernel) rfl, ?_⟩
  exact fun _ h => absurd h List.not_mem_nil
theorem vX12_doesBest {l : Launch} {G : GT} {d : Nat} {av : List Value} {Q : Po} {σ : Mm} (cs : List (Nat × List Nat)) (k : Nat) (h : vc l G d mX12_doesBest TX12_doesBest Q cs k TX12_doesBest (lv_args 0 av) [] σ) (hlen : (lg_sl av).length ≤ mX12_doesBest.2.2.1 := by exact Nat.le_of_ble_eq_true rfl) : MW l G d mX12_doesBest av σ Q := mw_vc TX12_doesBest_ok mc_X12_doesBest rfl hlen cs k rfl h
theorem wX12_doesBest {l : Launch} {G : GT} {d : Nat} {Q : Po} {pc : Nat} {lv : Lv} {st : List Value} {σ : Mm} (cs : List (Nat × List Nat)) (k : Nat) (h : vc l G d mX12_doesBest TX12_doesBest Q cs k (drp TX12_doesBest pc) lv st σ) (hpc : hdp (drp TX12_doesBest pc) = pc := by rfl) : Wp l G d mX12_doesBest pc lv st σ Q := wp_vc TX12_doesBest_ok cs k hpc h
def TX12_adopts : List In := [(0, 1, zt_aload 0), (1, 2, zt_ic 0), (2, 5, zt_putI 20 27), (5, 6, zt_aload 0), (6, 7, zt_aload 1), (7, 8, zt_aload 0), (8, 11, zt_getL 20 35), (11, 12, zt_ic 0), (12, 13, zt_aload 1), (13, 14, zt_ic 2), (14, 15, zt_iald), (15, 16, zt_aload 1), (16, 17, zt_ic 3), (17, 18, zt_iald), (18, 21, zt_callVF mX12_lays 5 20), (21, 22, zt_ic 0), (22, 23, zt_istoreF 2), (23, 24, zt_aload 1), (24, 25, zt_ic 0), (25, 26, zt_iald), (26, 27, zt_istoreF 3), (27, 28, zt_iload 3), (28, 29, zt_aload 0), (29, 32, zt_getL 20 6), (32, 33, zt_ic 1), (33, 34, zt_iald), (34, 37, zt_icmp_ge 129), (37, 38, zt_ic 0), (38, 40, zt_istoreF 4), (40, 42, zt_iload 4), (42, 43, zt_iload 3), (43, 46, zt_icmp_gt 123), (46, 47, zt_aload 1), (47, 48, zt_iload 3), (48, 50, zt_iload 4), (50, 53, zt_callSF mX12_canCome 3), (53, 56, zt_if_ne 59), (56, 59, zt_goto 117), (59, 60, zt_aload 0), (60, 61, zt_aload 1), (61, 62, zt_aload 0), (62, 65, zt_getL 20 35), (65, 66, zt_aload 1), (66, 67, zt_ic 3), (67, 68, zt_iald), (68, 69, zt_ic 0), (69, 70, zt_aload 1), (70, 71, zt_ic 2), (71, 72, zt_iald), (72, 73, zt_iload 3), (73, 75, zt_iload 4), (75, 78, zt_callVF mX12_bestDeed 7 20), (78, 80, zt_istoreF 5), (80, 81, zt_aload 1), (81, 84, zt_ic 169), (84, 85, zt_iload 3), (85, 87, zt_iload 4), (87, 90, zt_callSF mX12_node 2), (90, 91, zt_iadd), (91, 92, zt_iald), (92, 94, zt_iload 5), (94, 97, zt_icmp_ne 100), (97, 100, zt_goto 117), (100, 101, zt_aload 1), (101, 104, zt_ic 169), (104, 105, zt_iload 3), (105, 107, zt_iload 4), (107, 110, zt_callSF mX12_node 2), (110, 111, zt_iadd), (111, 113, zt_iload 5), (113, 114, zt_iastoreF), (114, 117, zt_iincF 2 1), (117, 120, zt_iincF 4 1), (120, 123, zt_goto 40), (123, 126, zt_iincF 3 1), (126, 129, zt_goto 27), (129, 130, zt_aload 0), (130, 131, zt_iload 2), (131, 134, zt_putI 20 33), (134, 135, zt_aload 0), (135, 136, zt_iload 2), (136, 139, zt_putI 20 34), (139, 140, zt_iload 2), (140, 143, zt_if_ne 147), (143, 144, zt_ic 2), (144, 147, zt_goto 148), (147, 148, zt_ic (-1)), (148, 149, zt_iret)]
theorem TX12_adopts_ok : ∀ i ∈ TX12_adopts, Ent mX12_adopts i := by
  refine List.forall_mem_cons.mpr ⟨ze_aload_n (k := 0) (by decide +kernel) rfl, ?_⟩
  refine List.forall_mem_cons.mpr ⟨ze_iconst (n := 0) (by decide +kernel) (by decide), ?_⟩
  refine List.forall_mem_cons.mpr ⟨ze_putI (by decide +kernel) fl_X12_234 ⟨_, _, _, rfl, rfl, by decide +kernel⟩ rfl, ?_⟩
  refine List.forall_mem_cons.mpr ⟨ze_aload_n (k := 0) (by decide +kernel) rfl, ?_⟩
  refine List.forall_mem_cons.mpr ⟨ze_aload_n (k := 1) (by decide +kernel) rfl, ?_⟩
  refine List.forall_mem_cons.mpr ⟨ze_aload_n (k := 0) (by decide +kernel) rfl, ?_⟩
  refine List.forall_mem_cons.mpr ⟨ze_getL (by decide +kernel) fl_X12_67 rfl (by decide), ?_⟩
  refine List.forall_mem_cons.mpr ⟨ze_iconst (n := 0) (by decide +kernel) (by decide), ?_⟩
  refine List.forall_mem_cons.mpr ⟨ze_aload_n (k := 1) (by decide +kernel) rfl, ?_⟩
  refine List.forall_mem_cons.mpr ⟨ze_iconst (n := 2) (by decide +kernel) (by decide), ?_⟩
  refine List.forall_mem_cons.mpr ⟨ze_iald (by decide +kernel), ?_⟩
  refine List.forall_mem_cons.mpr ⟨ze_aload_n (k := 1) (by decide +kernel) rfl, ?_⟩
  refine List.forall_mem_cons.mpr ⟨ze_iconst (n := 3) (by decide +kernel) (by decide), ?_⟩
  refine List.forall_mem_cons.mpr ⟨ze_iald (by decide +kernel), ?_⟩
  refine List.forall_mem_cons.mpr ⟨ze_callVF (idx := 300) (by decide +kernel) ml_X12_300 mv_X12_lays rfl, ?_⟩
  refine List.forall_mem_cons.mpr ⟨ze_iconst (n := 0) (by decide +kernel) (by decide), ?_⟩
  refine List.forall_mem_cons.mpr ⟨ze_istoreF_n (k := 2) (by decide +kernel) rfl (by decide), ?_⟩
  refine List.forall_mem_cons.mpr ⟨ze_aload_n (k := 1) (by decide +kernel) rfl, ?_⟩
  refine List.forall_mem_cons.mpr ⟨ze_iconst (n := 0) (by decide +kernel) (by decide), ?_⟩
  refine List.forall_mem_cons.mpr ⟨ze_iald (by decide +kernel), ?_⟩
  refine List.forall_mem_cons.mpr ⟨ze_istoreF_n (k := 3) (by decide +kernel) rfl (by decide), ?_⟩
  refine List.forall_mem_cons.mpr ⟨ze_iload_n (k := 3) (by decide +kernel) rfl, ?_⟩
  refine List.forall_mem_cons.mpr ⟨ze_aload_n (k := 0) (by decide +kernel) rfl, ?_⟩
  refine List.forall_mem_cons.mpr ⟨ze_getL (by decide +kernel) fl_X12_17 rfl (by decide), ?_⟩
  refine List.forall_mem_cons.mpr ⟨ze_iconst (n := 1) (by decide +kernel) (by decide), ?_⟩
  refine List.forall_mem_cons.mpr ⟨ze_iald (by decide +kernel), ?_⟩
  refine List.forall_mem_cons.mpr ⟨ze_icmp_ge (off := 95) (by decide +kernel) (by decide), ?_⟩
  refine List.forall_mem_cons.mpr ⟨ze_iconst (n := 0) (by decide +kernel) (by decide), ?_⟩
  refine List.forall_mem_cons.mpr ⟨ze_istoreF (by decide +kernel) (by decide), ?_⟩
  refine List.forall_mem_cons.mpr ⟨ze_iload (by decide +kernel), ?_⟩
  refine List.forall_mem_cons.mpr ⟨ze_iload_n (k := 3) (by decide +kernel) rfl, ?_⟩
  refine List.forall_mem_cons.mpr ⟨ze_icmp_gt (off := 80) (by decide +kernel) (by decide), ?_⟩
  refine List.forall_mem_cons.mpr ⟨ze_aload_n (k := 1) (by decide +kernel) rfl, ?_⟩
  refine List.forall_mem_cons.mpr ⟨ze_iload_n (k := 3) (by decide +kernel) rfl, ?_⟩
  refine List.forall_mem_cons.mpr ⟨ze_iload (by decide +kernel), ?_⟩
  refine List.forall_mem_cons.mpr ⟨ze_callSF (idx := 310) (by decide +kernel) ml_X12_310 ms_X12_canCome, ?_⟩
  refine List.forall_mem_cons.mpr ⟨ze_if_ne (off := 6) (by decide +kernel) (by decide), ?_⟩
  refine List.forall_mem_cons.mpr ⟨ze_goto (off := 61) (by decide +kernel) (by decide), ?_⟩
  refine List.forall_mem_cons.mpr ⟨ze_aload_n (k := 0) (by decide +kernel) rfl, ?_⟩
  refine List.forall_mem_cons.mpr ⟨ze_aload_n (k := 1) (by decide +kernel) rfl, ?_⟩
  refine List.forall_mem_cons.mpr ⟨ze_aload_n (k := 0) (by decide +kernel) rfl, ?_⟩
  refine List.forall_mem_cons.mpr ⟨ze_getL (by decide +kernel) fl_X12_67 rfl (by decide), ?_⟩
  refine List.forall_mem_cons.mpr ⟨ze_aload_n (k := 1) (by decide +kernel) rfl, ?_⟩
  refine List.forall_mem_cons.mpr ⟨ze_iconst (n := 3) (by decide +kernel) (by decide), ?_⟩
  refine List.forall_mem_cons.mpr ⟨ze_iald (by decide +kernel), ?_⟩
  refine List.forall_mem_cons.mpr ⟨ze_iconst (n := 0) (by decide +kernel) (by decide), ?_⟩
  refine List.forall_mem_cons.mpr ⟨ze_aload_n (k := 1) (by decide +kernel) rfl, ?_⟩
  refine List.forall_mem_cons.mpr ⟨ze_iconst (n := 2) (by decide +kernel) (by decide), ?_⟩
  refine List.forall_mem_cons.mpr ⟨ze_iald (by decide +kernel), ?_⟩
  refine List.forall_mem_cons.mpr ⟨ze_iload_n (k := 3) (by decide +kernel) rfl, ?_⟩
  refine List.forall_mem_cons.mpr ⟨ze_iload (by decide +kernel), ?_⟩
  refine List.forall_mem_cons.mpr ⟨ze_callVF (idx := 285) (by decide +kernel) ml_X12_285 mv_X12_bestDeed rfl, ?_⟩
  refine List.forall_mem_cons.mpr ⟨ze_istoreF (by decide +kernel) (by decide), ?_⟩
  refine List.forall_mem_cons.mpr ⟨ze_aload_n (k := 1) (by decide +kernel) rfl, ?_⟩
  refine List.forall_mem_cons.mpr ⟨ze_sipush (n := 169) (by decide +kernel) (by decide), ?_⟩
  refine List.forall_mem_cons.mpr ⟨ze_iload_n (k := 3) (by decide +kernel) rfl, ?_⟩
  refine List.forall_mem_cons.mpr ⟨ze_iload (by decide +kernel), ?_⟩
  refine List.forall_mem_cons.mpr ⟨ze_callSF (idx := 210) (by decide +kernel) ml_X12_210 ms_X12_node, ?_⟩
  refine List.forall_mem_cons.mpr ⟨ze_iadd (by decide +kernel), ?_⟩
  refine List.forall_mem_cons.mpr ⟨ze_iald (by decide +kernel), ?_⟩
  refine List.forall_mem_cons.mpr ⟨ze_iload (by decide +kernel), ?_⟩
  refine List.forall_mem_cons.mpr ⟨ze_icmp_ne (off := 6) (by decide +kernel) (by decide), ?_⟩
  refine List.forall_mem_cons.mpr ⟨ze_goto (off := 20) (by decide +kernel) (by decide), ?_⟩
  refine List.forall_mem_cons.mpr ⟨ze_aload_n (k := 1) (by decide +kernel) rfl, ?_⟩
  refine List.forall_mem_cons.mpr ⟨ze_sipush (n := 169) (by decide +kernel) (by decide), ?_⟩
  refine List.forall_mem_cons.mpr ⟨ze_iload_n (k := 3) (by decide +kernel) rfl, ?_⟩
  refine List.forall_mem_cons.mpr ⟨ze_iload (by decide +kernel), ?_⟩
  refine List.forall_mem_cons.mpr ⟨ze_callSF (idx := 210) (by decide +kernel) ml_X12_210 ms_X12_node, ?_⟩
  refine List.forall_mem_cons.mpr ⟨ze_iadd (by decide +kernel), ?_⟩
  refine List.forall_mem_cons.mpr ⟨ze_iload (by decide +kernel), ?_⟩
  refine List.forall_mem_cons.mpr ⟨ze_iastoreF (by decide +kernel), ?_⟩
  refine List.forall_mem_cons.mpr ⟨ze_iincF (n := 1) (by decide +kernel) (by decide) (by decide), ?_⟩
  refine List.forall_mem_cons.mpr ⟨ze_iincF (n := 1) (by decide +kernel) (by decide) (by decide), ?_⟩
  refine List.forall_mem_cons.mpr ⟨ze_goto (off := -80) (by decide +kernel) (by decide), ?_⟩
  refine List.forall_mem_cons.mpr ⟨ze_iincF (n := 1) (by decide +kernel) (by decide) (by decide), ?_⟩
  refine List.forall_mem_cons.mpr ⟨ze_goto (off := -99) (by decide +kernel) (by decide), ?_⟩
  refine List.forall_mem_cons.mpr ⟨ze_aload_n (k := 0) (by decide +kernel) rfl, ?_⟩
  refine List.forall_mem_cons.mpr ⟨ze_iload_n (k := 2) (by decide +kernel) rfl, ?_⟩
  refine List.forall_mem_cons.mpr ⟨ze_putI (by decide +kernel) fl_X12_316 ⟨_, _, _, rfl, rfl, by decide +kernel⟩ rfl, ?_⟩
  refine List.forall_mem_cons.mpr ⟨ze_aload_n (k := 0) (by decide +kernel) rfl, ?_⟩
  refine List.forall_mem_cons.mpr ⟨ze_iload_n (k := 2) (by decide +kernel) rfl, ?_⟩
  refine List.forall_mem_cons.mpr ⟨ze_putI (by decide +kernel) fl_X12_329 ⟨_, _, _, rfl, rfl, by decide +kernel⟩ rfl, ?_⟩
  refine List.forall_mem_cons.mpr ⟨ze_iload_n (k := 2) (by decide +kernel) rfl, ?_⟩
  refine List.forall_mem_cons.mpr ⟨ze_if_ne (off := 7) (by decide +kernel) (by decide), ?_⟩
  refine List.forall_mem_cons.mpr ⟨ze_iconst (n := 2) (by decide +kernel) (by decide), ?_⟩
  refine List.forall_mem_cons.mpr ⟨ze_goto (off := 4) (by decide +kernel) (by decide), ?_⟩
  refine List.forall_mem_cons.mpr ⟨ze_iconst (n := -1) (by decide +kernel) (by decide), ?_⟩
  refine List.forall_mem_cons.mpr ⟨ze_iret (by decide +kernel) rfl, ?_⟩
  exact fun _ h => absurd h List.not_mem_nil
theorem vX12_adopts {l : Launch} {G : GT} {d : Nat} {av : List Value} {Q : Po} {σ : Mm} (cs : List (Nat × List Nat)) (k : Nat) (h : vc l G d mX12_adopts TX12_adopts Q cs k TX12_adopts (lv_args 0 av) [] σ) (hlen : (lg_sl av).length ≤ mX12_adopts.2.2.1 := by exact Nat.le_of_ble_eq_true rfl) : MW l G d mX12_adopts av σ Q := mw_vc TX12_adopts_ok mc_X12_adopts rfl hlen cs k rfl h
theorem wX12_adopts {l : Launch} {G : GT} {d : Nat} {Q : Po} {pc : Nat} {lv : Lv} {st : List Value} {σ : Mm} (cs : List (Nat × List Nat)) (k : Nat) (h : vc l G d mX12_adopts TX12_adopts Q cs k (drp TX12_adopts pc) lv st σ) (hpc : hdp (drp TX12_adopts pc) = pc := by rfl) : Wp l G d mX12_adopts pc lv st σ Q := wp_vc TX12_adopts_ok cs k hpc h
def TX12_does : List In := [(0, 1, zt_aload 0), (1, 2, zt_ic 0), (2, 5, zt_putI 20 27), (5, 6, zt_aload 0), (6, 7, zt_aload 1), (7, 8, zt_iload 2), (8, 9, zt_iload 3), (9, 11, zt_iload 4), (11, 13, zt_iload 5), (13, 16, zt_callVF mX12_stops 5 20), (16, 18, zt_istoreF 6), (18, 20, zt_iload 6), (20, 21, zt_ic (-1)), (21, 24, zt_icmp_eq 27), (24, 26, zt_iload 6), (26, 27, zt_iret), (27, 28, zt_aload 0), (28, 29, zt_aload 1), (29, 32, zt_callVF mX12_laysYears 1 20), (32, 33, zt_aload 0), (33, 34, zt_iload 2), (34, 35, zt_ic 5), (35, 38, zt_icmp_eq 44), (38, 39, zt_iload 2), (39, 41, zt_ic 6), (41, 44, zt_icmp_ne 48), (44, 45, zt_iload 3), (45, 48, zt_goto 51), (48, 49, zt_aload 1), (49, 50, zt_ic 0), (50, 51, zt_iald), (51, 54, zt_putI 20 34), (54, 55, zt_iload 2), (55, 104, zt_tsw 0 8 [104, 104, 121, 121, 131, 148, 168, 195, 216] 222), (104, 105, zt_aload 0), (105, 106, zt_aload 1), (106, 107, zt_ic 1), (107, 108, zt_iload 2), (108, 109, zt_isub), (109, 112, zt_callVF mX12_passes 2 20), (112, 113, zt_aload 0), (113, 114, zt_aload 1), (114, 115, zt_ic 0), (115, 116, zt_iald), (116, 119, zt_putI 20 34), (119, 120, zt_ic (-1)), (120, 121, zt_iret), (121, 122, zt_aload 0), (122, 123, zt_aload 1), (123, 124, zt_iload 2), (124, 125, zt_ic 1), (125, 126, zt_isub), (126, 129, zt_callVF mX12_givesNotice 2 20), (129, 130, zt_ic (-1)), (130, 131, zt_iret), (131, 132, zt_aload 0), (132, 133, zt_aload 1), (133, 134, zt_ic 5), (134, 135, zt_iald), (135, 138, zt_putI 20 33), (138, 139, zt_aload 1), (139, 140, zt_ic 4), (140, 141, zt_ic 0), (141, 142, zt_iastoreF), (142, 143, zt_aload 1), (143, 144, zt_ic 5), (144, 145, zt_ic 0), (145, 146, zt_iastoreF), (146, 147, zt_ic (-1)), (147, 148, zt_iret), (148, 149, zt_aload 0), (149, 150, zt_aload 1), (150, 152, zt_ic 12), (152, 153, zt_iload 3), (153, 154, zt_iadd), (154, 155, zt_iald), (155, 158, zt_putI 20 33), (158, 159, zt_aload 1), (159, 161, zt_ic 12), (161, 162, zt_iload 3), (162, 163, zt_iadd), (163, 165, zt_iload 4), (165, 166, zt_iastoreF), (166, 167, zt_ic (-1)), (167, 168, zt_iret), (168, 169, zt_aload 0), (169, 170, zt_aload 0), (170, 171, zt_aload 1), (171, 172, zt_iload 3), (172, 174, zt_iload 4), (174, 177, zt_callVF mX12_rateOf 3 20), (177, 180, zt_putI 20 33), (180, 181, zt_aload 1), (181, 183, zt_ic 25), (183, 184, zt_iload 3), (184, 186, zt_iload 4), (186, 189, zt_callSF mX12_node 2), (189, 190, zt_iadd), (190, 192, zt_iload 5), (192, 193, zt_iastoreF), (193, 194, zt_ic (-1)), (194, 195, zt_iret), (195, 196, zt_aload 1), (196, 197, zt_ic 4), (197, 198, zt_iald), (198, 201, zt_if_eq 205), (201, 202, zt_ic 2), (202, 205, zt_goto 215), (205, 206, zt_aload 0), (206, 207, zt_aload 1), (207, 208, zt_aload 0), (208, 209, zt_aload 1), (209, 212, zt_callVF mX12_bestHere 1 20), (212, 215, zt_callVF mX12_doesBest 2 20), (215, 216, zt_iret), (216, 217, zt_aload 0), (217, 218, zt_aload 1), (218, 221, zt_callVF mX12_adopts 1 20), (221, 222, zt_iret), (222, 223, zt_aload 0), (223, 224, zt_aload 1), (224, 225, zt_aload 0), (225, 226, zt_aload 1), (226, 227, zt_aload 1), (227, 228, zt_ic 3), (228, 229, zt_iald), (229, 230, zt_aload 1), (230, 231, zt_ic 0), (231, 232, zt_iald), (232, 233, zt_aload 1), (233, 234, zt_ic 1), (234, 235, zt_iald), (235, 238, zt_callVF mX12_policyDeed 4 20), (238, 241, zt_callVF mX12_doesBest 2 20), (241, 242, zt_iret)]
theorem TX12_does_ok : ∀ i ∈ TX12_does, Ent mX12_does i := by
  refine List.forall_mem_cons.mpr ⟨ze_aload_n (k := 0) (by decide +kernel) rfl, ?_⟩
  refine List.forall_mem_cons.mpr ⟨ze_iconst (n := 0) (by decide +kernel) (by decide), ?_⟩
  refine List.forall_mem_cons.mpr ⟨ze_putI (by decide +kernel) fl_X12_234 ⟨_, _, _, rfl, rfl, by decide +kernel⟩ rfl, ?_⟩
  refine List.forall_mem_cons.mpr ⟨ze_aload_n (k := 0) (by decide +kernel) rfl, ?_⟩
  refine List.forall_mem_cons.mpr ⟨ze_aload_n (k := 1) (by decide +kernel) rfl, ?_⟩
  refine List.forall_mem_cons.mpr ⟨ze_iload_n (k := 2) (by decide +kernel) rfl, ?_⟩
  refine List.forall_mem_cons.mpr ⟨ze_iload_n (k := 3) (by decide +kernel) rfl, ?_⟩
  refine List.forall_mem_cons.mpr ⟨ze_iload (by decide +kernel), ?_⟩
  refine List.forall_mem_cons.mpr ⟨ze_iload (by decide +kernel), ?_⟩
  refine List.forall_mem_cons.mpr ⟨ze_callVF (idx := 332) (by decide +kernel) ml_X12_332 mv_X12_stops rfl, ?_⟩
  refine List.forall_mem_cons.mpr ⟨ze_istoreF (by decide +kernel) (by decide), ?_⟩
  refine List.forall_mem_cons.mpr ⟨ze_iload (by decide +kernel), ?_⟩
  refine List.forall_mem_cons.mpr ⟨ze_iconst (n := -1) (by decide +kernel) (by decide), ?_⟩
  refine List.forall_mem_cons.mpr ⟨ze_icmp_eq (off := 6) (by decide +kernel) (by decide), ?_⟩
  refine List.forall_mem_cons.mpr ⟨ze_iload (by decide +kernel), ?_⟩
  refine List.forall_mem_cons.mpr ⟨ze_iret (by decide +kernel) rfl, ?_⟩
  refine List.forall_mem_cons.mpr ⟨ze_aload_n (k := 0) (by decide +kernel) rfl, ?_⟩
  refine List.forall_mem_cons.mpr ⟨ze_aload_n (k := 1) (by decide +kernel) rfl, ?_⟩
  refine List.forall_mem_cons.mpr ⟨ze_callVF (idx := 289) (by decide +kernel) ml_X12_289 mv_X12_laysYears rfl, ?_⟩
  refine List.forall_mem_cons.mpr ⟨ze_aload_n (k := 0) (by decide +kernel) rfl, ?_⟩
  refine List.forall_mem_cons.mpr ⟨ze_iload_n (k := 2) (by decide +kernel) rfl, ?_⟩
  refine List.forall_mem_cons.mpr ⟨ze_iconst (n := 5) (by decide +kernel) (by decide), ?_⟩
  refine List.forall_mem_cons.mpr ⟨ze_icmp_eq (off := 9) (by decide +kernel) (by decide), ?_⟩
  refine List.forall_mem_cons.mpr ⟨ze_iload_n (k := 2) (by decide +kernel) rfl, ?_⟩
  refine List.forall_mem_cons.mpr ⟨ze_bipush (n := 6) (by decide +kernel) (by decide), ?_⟩
  refine List.forall_mem_cons.mpr ⟨ze_icmp_ne (off := 7) (by decide +kernel) (by decide), ?_⟩
  refine List.forall_mem_cons.mpr ⟨ze_iload_n (k := 3) (by decide +kernel) rfl, ?_⟩
  refine List.forall_mem_cons.mpr ⟨ze_goto (off := 6) (by decide +kernel) (by decide), ?_⟩
  refine List.forall_mem_cons.mpr ⟨ze_aload_n (k := 1) (by decide +kernel) rfl, ?_⟩
  refine List.forall_mem_cons.mpr ⟨ze_iconst (n := 0) (by decide +kernel) (by decide), ?_⟩
  refine List.forall_mem_cons.mpr ⟨ze_iald (by decide +kernel), ?_⟩
  refine List.forall_mem_cons.mpr ⟨ze_putI (by decide +kernel) fl_X12_329 ⟨_, _, _, rfl, rfl, by decide +kernel⟩ rfl, ?_⟩
  refine List.forall_mem_cons.mpr ⟨ze_iload_n (k := 2) (by decide +kernel) rfl, ?_⟩
  refine List.forall_mem_cons.mpr ⟨ze_tsw (len := 49) (df0 := 167) (offs := #[49, 49, 66, 66, 76, 93, 113, 140, 161]) (by decide +kernel) (by decide) (by decide +kernel) (by decide), ?_⟩
  refine List.forall_mem_cons.mpr ⟨ze_aload_n (k := 0) (by decide +kernel) rfl, ?_⟩
  refine List.forall_mem_cons.mpr ⟨ze_aload_n (k := 1) (by decide +kernel) rfl, ?_⟩
  refine List.forall_mem_cons.mpr ⟨ze_iconst (n := 1) (by decide +kernel) (by decide), ?_⟩
  refine List.forall_mem_cons.mpr ⟨ze_iload_n (k := 2) (by decide +kernel) rfl, ?_⟩
  refine List.forall_mem_cons.mpr ⟨ze_isub (by decide +kernel), ?_⟩
  refine List.forall_mem_cons.mpr ⟨ze_callVF (idx := 336) (by decide +kernel) ml_X12_336 mv_X12_passes rfl, ?_⟩
  refine List.forall_mem_cons.mpr ⟨ze_aload_n (k := 0) (by decide +kernel) rfl, ?_⟩
  refine List.forall_mem_cons.mpr ⟨ze_aload_n (k := 1) (by decide +kernel) rfl, ?_⟩
  refine List.forall_mem_cons.mpr ⟨ze_iconst (n := 0) (by decide +kernel) (by decide), ?_⟩
  refine List.forall_mem_cons.mpr ⟨ze_iald (by decide +kernel), ?_⟩
  refine List.forall_mem_cons.mpr ⟨ze_putI (by decide +kernel) fl_X12_329 ⟨_, _, _, rfl, rfl, by decide +kernel⟩ rfl, ?_⟩
  refine List.forall_mem_cons.mpr ⟨ze_iconst (n := -1) (by decide +kernel) (by decide), ?_⟩
  refine List.forall_mem_cons.mpr ⟨ze_iret (by decide +kernel) rfl, ?_⟩
  refine List.forall_mem_cons.mpr ⟨ze_aload_n (k := 0) (by decide +kernel) rfl, ?_⟩
  refine List.forall_mem_cons.mpr ⟨ze_aload_n (k := 1) (by decide +kernel) rfl, ?_⟩
  refine List.forall_mem_cons.mpr ⟨ze_iload_n (k := 2) (by decide +kernel) rfl, ?_⟩
  refine List.forall_mem_cons.mpr ⟨ze_iconst (n := 1) (by decide +kernel) (by decide), ?_⟩
  refine List.forall_mem_cons.mpr ⟨ze_isub (by decide +kernel), ?_⟩
  refine List.forall_mem_cons.mpr ⟨ze_callVF (idx := 326) (by decide +kernel) ml_X12_326 mv_X12_givesNotice rfl, ?_⟩
  refine List.forall_mem_cons.mpr ⟨ze_iconst (n := -1) (by decide +kernel) (by decide), ?_⟩
  refine List.forall_mem_cons.mpr ⟨ze_iret (by decide +kernel) rfl, ?_⟩
  refine List.forall_mem_cons.mpr ⟨ze_aload_n (k := 0) (by decide +kernel) rfl, ?_⟩
  refine List.forall_mem_cons.mpr ⟨ze_aload_n (k := 1) (by decide +kernel) rfl, ?_⟩
  refine List.forall_mem_cons.mpr ⟨ze_iconst (n := 5) (by decide +kernel) (by decide), ?_⟩
  refine List.forall_mem_cons.mpr ⟨ze_iald (by decide +kernel), ?_⟩
  refine List.forall_mem_cons.mpr ⟨ze_putI (by decide +kernel) fl_X12_316 ⟨_, _, _, rfl, rfl, by decide +kernel⟩ rfl, ?_⟩
  refine List.forall_mem_cons.mpr ⟨ze_aload_n (k := 1) (by decide +kernel) rfl, ?_⟩
  refine List.forall_mem_cons.mpr ⟨ze_iconst (n := 4) (by decide +kernel) (by decide), ?_⟩
  refine List.forall_mem_cons.mpr ⟨ze_iconst (n := 0) (by decide +kernel) (by decide), ?_⟩
  refine List.forall_mem_cons.mpr ⟨ze_iastoreF (by decide +kernel), ?_⟩
  refine List.forall_mem_cons.mpr ⟨ze_aload_n (k := 1) (by decide +kernel) rfl, ?_⟩
  refine List.forall_mem_cons.mpr ⟨ze_iconst (n := 5) (by decide +kernel) (by decide), ?_⟩
  refine List.forall_mem_cons.mpr ⟨ze_iconst (n := 0) (by decide +kernel) (by decide), ?_⟩
  refine List.forall_mem_cons.mpr ⟨ze_iastoreF (by decide +kernel), ?_⟩
  refine List.forall_mem_cons.mpr ⟨ze_iconst (n := -1) (by decide +kernel) (by decide), ?_⟩
  refine List.forall_mem_cons.mpr ⟨ze_iret (by decide +kernel) rfl, ?_⟩
  refine List.forall_mem_cons.mpr ⟨ze_aload_n (k := 0) (by decide +kernel) rfl, ?_⟩
  refine List.forall_mem_cons.mpr ⟨ze_aload_n (k := 1) (by decide +kernel) rfl, ?_⟩
  refine List.forall_mem_cons.mpr ⟨ze_bipush (n := 12) (by decide +kernel) (by decide), ?_⟩
  refine List.forall_mem_cons.mpr ⟨ze_iload_n (k := 3) (by decide +kernel) rfl, ?_⟩
  refine List.forall_mem_cons.mpr ⟨ze_iadd (by decide +kernel), ?_⟩
  refine List.forall_mem_cons.mpr ⟨ze_iald (by decide +kernel), ?_⟩
  refine List.forall_mem_cons.mpr ⟨ze_putI (by decide +kernel) fl_X12_316 ⟨_, _, _, rfl, rfl, by decide +kernel⟩ rfl, ?_⟩
  refine List.forall_mem_cons.mpr ⟨ze_aload_n (k := 1) (by decide +kernel) rfl, ?_⟩
  refine List.forall_mem_cons.mpr ⟨ze_bipush (n := 12) (by decide +kernel) (by decide), ?_⟩
  refine List.forall_mem_cons.mpr ⟨ze_iload_n (k := 3) (by decide +kernel) rfl, ?_⟩
  refine List.forall_mem_cons.mpr ⟨ze_iadd (by decide +kernel), ?_⟩
  refine List.forall_mem_cons.mpr ⟨ze_iload (by decide +kernel), ?_⟩
  refine List.forall_mem_cons.mpr ⟨ze_iastoreF (by decide +kernel), ?_⟩
  refine List.forall_mem_cons.mpr ⟨ze_iconst (n := -1) (by decide +kernel) (by decide), ?_⟩
  refine List.forall_mem_cons.mpr ⟨ze_iret (by decide +kernel) rfl, ?_⟩
  refine List.forall_mem_cons.mpr ⟨ze_aload_n (k := 0) (by decide +kernel) rfl, ?_⟩
  refine List.forall_mem_cons.mpr ⟨ze_aload_n (k := 0) (by decide +kernel) rfl, ?_⟩
  refine List.forall_mem_cons.mpr ⟨ze_aload_n (k := 1) (by decide +kernel) rfl, ?_⟩
  refine List.forall_mem_cons.mpr ⟨ze_iload_n (k := 3) (by decide +kernel) rfl, ?_⟩
  refine List.forall_mem_cons.mpr ⟨ze_iload (by decide +kernel), ?_⟩
  refine List.forall_mem_cons.mpr ⟨ze_callVF (idx := 237) (by decide +kernel) ml_X12_237 mv_X12_rateOf rfl, ?_⟩
  refine List.forall_mem_cons.mpr ⟨ze_putI (by decide +kernel) fl_X12_316 ⟨_, _, _, rfl, rfl, by decide +kernel⟩ rfl, ?_⟩
  refine List.forall_mem_cons.mpr ⟨ze_aload_n (k := 1) (by decide +kernel) rfl, ?_⟩
  refine List.forall_mem_cons.mpr ⟨ze_bipush (n := 25) (by decide +kernel) (by decide), ?_⟩
  refine List.forall_mem_cons.mpr ⟨ze_iload_n (k := 3) (by decide +kernel) rfl, ?_⟩
  refine List.forall_mem_cons.mpr ⟨ze_iload (by decide +kernel), ?_⟩
  refine List.forall_mem_cons.mpr ⟨ze_callSF (idx := 210) (by decide +kernel) ml_X12_210 ms_X12_node, ?_⟩
  refine List.forall_mem_cons.mpr ⟨ze_iadd (by decide +kernel), ?_⟩
  refine List.forall_mem_cons.mpr ⟨ze_iload (by decide +kernel), ?_⟩
  refine List.forall_mem_cons.mpr ⟨ze_iastoreF (by decide +kernel), ?_⟩
  refine List.forall_mem_cons.mpr ⟨ze_iconst (n := -1) (by decide +kernel) (by decide), ?_⟩
  refine List.forall_mem_cons.mpr ⟨ze_iret (by decide +kernel) rfl, ?_⟩
  refine List.forall_mem_cons.mpr ⟨ze_aload_n (k := 1) (by decide +kernel) rfl, ?_⟩
  refine List.forall_mem_cons.mpr ⟨ze_iconst (n := 4) (by decide +kernel) (by decide), ?_⟩
  refine List.forall_mem_cons.mpr ⟨ze_iald (by decide +kernel), ?_⟩
  refine List.forall_mem_cons.mpr ⟨ze_if_eq (off := 7) (by decide +kernel) (by decide), ?_⟩
  refine List.forall_mem_cons.mpr ⟨ze_iconst (n := 2) (by decide +kernel) (by decide), ?_⟩
  refine List.forall_mem_cons.mpr ⟨ze_goto (off := 13) (by decide +kernel) (by decide), ?_⟩
  refine List.forall_mem_cons.mpr ⟨ze_aload_n (k := 0) (by decide +kernel) rfl, ?_⟩
  refine List.forall_mem_cons.mpr ⟨ze_aload_n (k := 1) (by decide +kernel) rfl, ?_⟩
  refine List.forall_mem_cons.mpr ⟨ze_aload_n (k := 0) (by decide +kernel) rfl, ?_⟩
  refine List.forall_mem_cons.mpr ⟨ze_aload_n (k := 1) (by decide +kernel) rfl, ?_⟩
  refine List.forall_mem_cons.mpr ⟨ze_callVF (idx := 339) (by decide +kernel) ml_X12_339 mv_X12_bestHere rfl, ?_⟩
  refine List.forall_mem_cons.mpr ⟨ze_callVF (idx := 343) (by decide +kernel) ml_X12_343 mv_X12_doesBest rfl, ?_⟩
  refine List.forall_mem_cons.mpr ⟨ze_iret (by decide +kernel) rfl, ?_⟩
  refine List.forall_mem_cons.mpr ⟨ze_aload_n (k := 0) (by decide +kernel) rfl, ?_⟩
  refine List.forall_mem_cons.mpr ⟨ze_aload_n (k := 1) (by decide +kernel) rfl, ?_⟩
  refine List.forall_mem_cons.mpr ⟨ze_callVF (idx := 347) (by decide +kernel) ml_X12_347 mv_X12_adopts rfl, ?_⟩
  refine List.forall_mem_cons.mpr ⟨ze_iret (by decide +kernel) rfl, ?_⟩
  refine List.forall_mem_cons.mpr ⟨ze_aload_n (k := 0) (by decide +kernel) rfl, ?_⟩
  refine List.forall_mem_cons.mpr ⟨ze_aload_n (k := 1) (by decide +kernel) rfl, ?_⟩
  refine List.forall_mem_cons.mpr ⟨ze_aload_n (k := 0) (by decide +kernel) rfl, ?_⟩
  refine List.forall_mem_cons.mpr ⟨ze_aload_n (k := 1) (by decide +kernel) rfl, ?_⟩
  refine List.forall_mem_cons.mpr ⟨ze_aload_n (k := 1) (by decide +kernel) rfl, ?_⟩
  refine List.forall_mem_cons.mpr ⟨ze_iconst (n := 3) (by decide +kernel) (by decide), ?_⟩
  refine List.forall_mem_cons.mpr ⟨ze_iald (by decide +kernel), ?_⟩
  refine List.forall_mem_cons.mpr ⟨ze_aload_n (k := 1) (by decide +kernel) rfl, ?_⟩
  refine List.forall_mem_cons.mpr ⟨ze_iconst (n := 0) (by decide +kernel) (by decide), ?_⟩
  refine List.forall_mem_cons.mpr ⟨ze_iald (by decide +kernel), ?_⟩
  refine List.forall_mem_cons.mpr ⟨ze_aload_n (k := 1) (by decide +kernel) rfl, ?_⟩
  refine List.forall_mem_cons.mpr ⟨ze_iconst (n := 1) (by decide +kernel) (by decide), ?_⟩
  refine List.forall_mem_cons.mpr ⟨ze_iald (by decide +kernel), ?_⟩
  refine List.forall_mem_cons.mpr ⟨ze_callVF (idx := 281) (by decide +kernel) ml_X12_281 mv_X12_policyDeed rfl, ?_⟩
  refine List.forall_mem_cons.mpr ⟨ze_callVF (idx := 343) (by decide +kernel) ml_X12_343 mv_X12_doesBest rfl, ?_⟩
  refine List.forall_mem_cons.mpr ⟨ze_iret (by decide +kernel) rfl, ?_⟩
  exact fun _ h => absurd h List.not_mem_nil
theorem vX12_does {l : Launch} {G : GT} {d : Nat} {av : List Value} {Q : Po} {σ : Mm} (cs : List (Nat × List Nat)) (k : Nat) (h : vc l G d mX12_does TX12_does Q cs k TX12_does (lv_args 0 av) [] σ) (hlen : (lg_sl av).length ≤ mX12_does.2.2.1 := by exact Nat.le_of_ble_eq_true rfl) : MW l G d mX12_does av σ Q := mw_vc TX12_does_ok mc_X12_does rfl hlen cs k rfl h
theorem wX12_does {l : Launch} {G : GT} {d : Nat} {Q : Po} {pc : Nat} {lv : Lv} {st : List Value} {σ : Mm} (cs : List (Nat × List Nat)) (k : Nat) (h : vc l G d mX12_does TX12_does Q cs k (drp TX12_does pc) lv st σ) (hpc : hdp (drp TX12_does pc) = pc := by rfl) : Wp l G d mX12_does pc lv st σ Q := wp_vc TX12_does_ok cs k hpc h
def TX12_remember : List In := [(0, 1, zt_aload 0), (1, 4, zt_getI 20 25), (4, 6, zt_ic 40), (6, 9, zt_icmp_ne 25), (9, 10, zt_aload 0), (10, 11, zt_aload 0), (11, 14, zt_getI 20 24), (14, 15, zt_ic 1), (15, 16, zt_iadd), (16, 18, zt_ic 40), (18, 19, zt_irem), (19, 22, zt_putI 20 24), (22, 25, zt_goto 35), (25, 26, zt_aload 0), (26, 27, zt_dup), (27, 30, zt_getI 20 25), (30, 31, zt_ic 1), (31, 32, zt_iadd), (32, 35, zt_putI 20 25), (35, 36, zt_aload 0), (36, 39, zt_getL 20 21), (39, 40, zt_ic 0), (40, 41, zt_aload 0), (41, 44, zt_getL 20 23), (44, 47, zt_ic 494), (47, 48, zt_aload 0), (48, 51, zt_getI 20 24), (51, 52, zt_aload 0), (52, 55, zt_getI 20 25), (55, 56, zt_iadd), (56, 57, zt_ic 1), (57, 58, zt_isub), (58, 60, zt_ic 40), (60, 61, zt_irem), (61, 62, zt_imul), (62, 65, zt_callSF mX12_copyRow 4), (65, 66, zt_vret)]
theorem TX12_remember_ok : ∀ i ∈ TX12_remember, Ent mX12_remember i := by
  refine List.forall_mem_cons.mpr ⟨ze_aload_n (k := 0) (by decide +kernel) rfl, ?_⟩
  refine List.forall_mem_cons.mpr ⟨ze_getI (by decide +kernel) fl_X12_214 rfl, ?_⟩
  refine List.forall_mem_cons.mpr ⟨ze_bipush (n := 40) (by decide +kernel) (by decide), ?_⟩
  refine List.forall_mem_cons.mpr ⟨ze_icmp_ne (off := 19) (by decide +kernel) (by decide), ?_⟩
  refine List.forall_mem_cons.mpr ⟨ze_aload_n (k := 0) (by decide +kernel) rfl, ?_⟩
  refine List.forall_mem_cons.mpr ⟨ze_aload_n (k := 0) (by decide +kernel) rfl, ?_⟩
  refine List.forall_mem_cons.mpr ⟨ze_getI (by decide +kernel) fl_X12_350 rfl, ?_⟩
  refine List.forall_mem_cons.mpr ⟨ze_iconst (n := 1) (by decide +kernel) (by decide), ?_⟩
  refine List.forall_mem_cons.mpr ⟨ze_iadd (by decide +kernel), ?_⟩
  refine List.forall_mem_cons.mpr ⟨ze_bipush (n := 40) (by decide +kernel) (by decide), ?_⟩
  refine List.forall_mem_cons.mpr ⟨ze_irem (by decide +kernel), ?_⟩
  refine List.forall_mem_cons.mpr ⟨ze_putI (by decide +kernel) fl_X12_350 ⟨_, _, _, rfl, rfl, by decide +kernel⟩ rfl, ?_⟩
  refine List.forall_mem_cons.mpr ⟨ze_goto (off := 13) (by decide +kernel) (by decide), ?_⟩
  refine List.forall_mem_cons.mpr ⟨ze_aload_n (k := 0) (by decide +kernel) rfl, ?_⟩
  refine List.forall_mem_cons.mpr ⟨ze_dup (by decide +kernel), ?_⟩
  refine List.forall_mem_cons.mpr ⟨ze_getI (by decide +kernel) fl_X12_214 rfl, ?_⟩
  refine List.forall_mem_cons.mpr ⟨ze_iconst (n := 1) (by decide +kernel) (by decide), ?_⟩
  refine List.forall_mem_cons.mpr ⟨ze_iadd (by decide +kernel), ?_⟩
  refine List.forall_mem_cons.mpr ⟨ze_putI (by decide +kernel) fl_X12_214 ⟨_, _, _, rfl, rfl, by decide +kernel⟩ rfl, ?_⟩
  refine List.forall_mem_cons.mpr ⟨ze_aload_n (k := 0) (by decide +kernel) rfl, ?_⟩
  refine List.forall_mem_cons.mpr ⟨ze_getL (by decide +kernel) fl_X12_41 rfl (by decide), ?_⟩
  refine List.forall_mem_cons.mpr ⟨ze_iconst (n := 0) (by decide +kernel) (by decide), ?_⟩
  refine List.forall_mem_cons.mpr ⟨ze_aload_n (k := 0) (by decide +kernel) rfl, ?_⟩
  refine List.forall_mem_cons.mpr ⟨ze_getL (by decide +kernel) fl_X12_47 rfl (by decide), ?_⟩
  refine List.forall_mem_cons.mpr ⟨ze_sipush (n := 494) (by decide +kernel) (by decide), ?_⟩
  refine List.forall_mem_cons.mpr ⟨ze_aload_n (k := 0) (by decide +kernel) rfl, ?_⟩
  refine List.forall_mem_cons.mpr ⟨ze_getI (by decide +kernel) fl_X12_350 rfl, ?_⟩
  refine List.forall_mem_cons.mpr ⟨ze_aload_n (k := 0) (by decide +kernel) rfl, ?_⟩
  refine List.forall_mem_cons.mpr ⟨ze_getI (by decide +kernel) fl_X12_214 rfl, ?_⟩
  refine List.forall_mem_cons.mpr ⟨ze_iadd (by decide +kernel), ?_⟩
  refine List.forall_mem_cons.mpr ⟨ze_iconst (n := 1) (by decide +kernel) (by decide), ?_⟩
  refine List.forall_mem_cons.mpr ⟨ze_isub (by decide +kernel), ?_⟩
  refine List.forall_mem_cons.mpr ⟨ze_bipush (n := 40) (by decide +kernel) (by decide), ?_⟩
  refine List.forall_mem_cons.mpr ⟨ze_irem (by decide +kernel), ?_⟩
  refine List.forall_mem_cons.mpr ⟨ze_imul (by decide +kernel), ?_⟩
  refine List.forall_mem_cons.mpr ⟨ze_callSF (idx := 353) (by decide +kernel) ml_X12_353 ms_X12_copyRow, ?_⟩
  refine List.forall_mem_cons.mpr ⟨ze_vret (by decide +kernel) rfl, ?_⟩
  exact fun _ h => absurd h List.not_mem_nil
theorem vX12_remember {l : Launch} {G : GT} {d : Nat} {av : List Value} {Q : Po} {σ : Mm} (cs : List (Nat × List Nat)) (k : Nat) (h : vc l G d mX12_remember TX12_remember Q cs k TX12_remember (lv_args 0 av) [] σ) (hlen : (lg_sl av).length ≤ mX12_remember.2.2.1 := by exact Nat.le_of_ble_eq_true rfl) : MW l G d mX12_remember av σ Q := mw_vc TX12_remember_ok mc_X12_remember rfl hlen cs k rfl h
theorem wX12_remember {l : Launch} {G : GT} {d : Nat} {Q : Po} {pc : Nat} {lv : Lv} {st : List Value} {σ : Mm} (cs : List (Nat × List Nat)) (k : Nat) (h : vc l G d mX12_remember TX12_remember Q cs k (drp TX12_remember pc) lv st σ) (hpc : hdp (drp TX12_remember pc) = pc := by rfl) : Wp l G d mX12_remember pc lv st σ Q := wp_vc TX12_remember_ok cs k hpc h
def TX12_notes : List In := [(0, 1, zt_aload 0), (1, 4, zt_getL 20 20), (4, 7, zt_ic 313), (7, 8, zt_iald), (8, 10, zt_ic 60), (10, 13, zt_icmp_ne 62), (13, 14, zt_ic 1), (14, 15, zt_istoreF 2), (15, 16, zt_iload 2), (16, 19, zt_ic 177), (19, 22, zt_icmp_gt 50), (22, 23, zt_aload 0), (23, 26, zt_getL 20 20), (26, 29, zt_ic 313), (29, 30, zt_iload 2), (30, 31, zt_iadd), (31, 32, zt_aload 0), (32, 35, zt_getL 20 20), (35, 38, zt_ic 313), (38, 39, zt_iload 2), (39, 40, zt_iadd), (40, 41, zt_ic 3), (41, 42, zt_iadd), (42, 43, zt_iald), (43, 44, zt_iastoreF), (44, 47, zt_iincF 2 1), (47, 50, zt_goto 15), (50, 51, zt_aload 0), (51, 54, zt_getL 20 20), (54, 57, zt_ic 313), (57, 58, zt_dup2), (58, 59, zt_iald), (59, 60, zt_ic 1), (60, 61, zt_isub), (61, 62, zt_iastoreF), (62, 65, zt_ic 314), (65, 66, zt_ic 3), (66, 67, zt_aload 0), (67, 70, zt_getL 20 20), (70, 73, zt_ic 313), (73, 74, zt_iald), (74, 75, zt_imul), (75, 76, zt_iadd), (76, 77, zt_istoreF 2), (77, 78, zt_aload 0), (78, 81, zt_getL 20 20), (81, 82, zt_iload 2), (82, 83, zt_iload 1), (83, 84, zt_iastoreF), (84, 85, zt_aload 0), (85, 88, zt_getL 20 20), (88, 89, zt_iload 2), (89, 90, zt_ic 1), (90, 91, zt_iadd), (91, 92, zt_aload 0), (92, 95, zt_getI 20 34), (95, 96, zt_iastoreF), (96, 97, zt_aload 0), (97, 100, zt_getL 20 20), (100, 101, zt_iload 2), (101, 102, zt_ic 2), (102, 103, zt_iadd), (103, 104, zt_aload 0), (104, 107, zt_getL 20 20), (107, 109, zt_ic 7), (109, 110, zt_iald), (110, 111, zt_iastoreF), (111, 112, zt_aload 0), (112, 115, zt_getL 20 20), (115, 118, zt_ic 313), (118, 119, zt_dup2), (119, 120, zt_iald), (120, 121, zt_ic 1), (121, 122, zt_iadd), (122, 123, zt_iastoreF), (123, 124, zt_vret)]
theorem TX12_notes_ok : ∀ i ∈ TX12_notes, Ent mX12_notes i := by
  refine List.forall_mem_cons.mpr ⟨ze_aload_n (k := 0) (by decide +kernel) rfl, ?_⟩
  refine List.forall_mem_cons.mpr ⟨ze_getL (by decide +kernel) fl_X12_38 rfl (by decide), ?_⟩
  refine List.forall_mem_cons.mpr ⟨ze_sipush (n := 313) (by decide +kernel) (by decide), ?_⟩
  refine List.forall_mem_cons.mpr ⟨ze_iald (by decide +kernel), ?_⟩
  refine List.forall_mem_cons.mpr ⟨ze_bipush (n := 60) (by decide +kernel) (by decide), ?_⟩
  refine List.forall_mem_cons.mpr ⟨ze_icmp_ne (off := 52) (by decide +kernel) (by decide), ?_⟩
  refine List.forall_mem_cons.mpr ⟨ze_iconst (n := 1) (by decide +kernel) (by decide), ?_⟩
  refine List.forall_mem_cons.mpr ⟨ze_istoreF_n (k := 2) (by decide +kernel) rfl (by decide), ?_⟩
  refine List.forall_mem_cons.mpr ⟨ze_iload_n (k := 2) (by decide +kernel) rfl, ?_⟩
  refine List.forall_mem_cons.mpr ⟨ze_sipush (n := 177) (by decide +kernel) (by decide), ?_⟩
  refine List.forall_mem_cons.mpr ⟨ze_icmp_gt (off := 31) (by decide +kernel) (by decide), ?_⟩
  refine List.forall_mem_cons.mpr ⟨ze_aload_n (k := 0) (by decide +kernel) rfl, ?_⟩
  refine List.forall_mem_cons.mpr ⟨ze_getL (by decide +kernel) fl_X12_38 rfl (by decide), ?_⟩
  refine List.forall_mem_cons.mpr ⟨ze_sipush (n := 313) (by decide +kernel) (by decide), ?_⟩
  refine List.forall_mem_cons.mpr ⟨ze_iload_n (k := 2) (by decide +kernel) rfl, ?_⟩
  refine List.forall_mem_cons.mpr ⟨ze_iadd (by decide +kernel), ?_⟩
  refine List.forall_mem_cons.mpr ⟨ze_aload_n (k := 0) (by decide +kernel) rfl, ?_⟩
  refine List.forall_mem_cons.mpr ⟨ze_getL (by decide +kernel) fl_X12_38 rfl (by decide), ?_⟩
  refine List.forall_mem_cons.mpr ⟨ze_sipush (n := 313) (by decide +kernel) (by decide), ?_⟩
  refine List.forall_mem_cons.mpr ⟨ze_iload_n (k := 2) (by decide +kernel) rfl, ?_⟩
  refine List.forall_mem_cons.mpr ⟨ze_iadd (by decide +kernel), ?_⟩
  refine List.forall_mem_cons.mpr ⟨ze_iconst (n := 3) (by decide +kernel) (by decide), ?_⟩
  refine List.forall_mem_cons.mpr ⟨ze_iadd (by decide +kernel), ?_⟩
  refine List.forall_mem_cons.mpr ⟨ze_iald (by decide +kernel), ?_⟩
  refine List.forall_mem_cons.mpr ⟨ze_iastoreF (by decide +kernel), ?_⟩
  refine List.forall_mem_cons.mpr ⟨ze_iincF (n := 1) (by decide +kernel) (by decide) (by decide), ?_⟩
  refine List.forall_mem_cons.mpr ⟨ze_goto (off := -32) (by decide +kernel) (by decide), ?_⟩
  refine List.forall_mem_cons.mpr ⟨ze_aload_n (k := 0) (by decide +kernel) rfl, ?_⟩
  refine List.forall_mem_cons.mpr ⟨ze_getL (by decide +kernel) fl_X12_38 rfl (by decide), ?_⟩
  refine List.forall_mem_cons.mpr ⟨ze_sipush (n := 313) (by decide +kernel) (by decide), ?_⟩
  refine List.forall_mem_cons.mpr ⟨ze_dup2 (by decide +kernel), ?_⟩
  refine List.forall_mem_cons.mpr ⟨ze_iald (by decide +kernel), ?_⟩
  refine List.forall_mem_cons.mpr ⟨ze_iconst (n := 1) (by decide +kernel) (by decide), ?_⟩
  refine List.forall_mem_cons.mpr ⟨ze_isub (by decide +kernel), ?_⟩
  refine List.forall_mem_cons.mpr ⟨ze_iastoreF (by decide +kernel), ?_⟩
  refine List.forall_mem_cons.mpr ⟨ze_sipush (n := 314) (by decide +kernel) (by decide), ?_⟩
  refine List.forall_mem_cons.mpr ⟨ze_iconst (n := 3) (by decide +kernel) (by decide), ?_⟩
  refine List.forall_mem_cons.mpr ⟨ze_aload_n (k := 0) (by decide +kernel) rfl, ?_⟩
  refine List.forall_mem_cons.mpr ⟨ze_getL (by decide +kernel) fl_X12_38 rfl (by decide), ?_⟩
  refine List.forall_mem_cons.mpr ⟨ze_sipush (n := 313) (by decide +kernel) (by decide), ?_⟩
  refine List.forall_mem_cons.mpr ⟨ze_iald (by decide +kernel), ?_⟩
  refine List.forall_mem_cons.mpr ⟨ze_imul (by decide +kernel), ?_⟩
  refine List.forall_mem_cons.mpr ⟨ze_iadd (by decide +kernel), ?_⟩
  refine List.forall_mem_cons.mpr ⟨ze_istoreF_n (k := 2) (by decide +kernel) rfl (by decide), ?_⟩
  refine List.forall_mem_cons.mpr ⟨ze_aload_n (k := 0) (by decide +kernel) rfl, ?_⟩
  refine List.forall_mem_cons.mpr ⟨ze_getL (by decide +kernel) fl_X12_38 rfl (by decide), ?_⟩
  refine List.forall_mem_cons.mpr ⟨ze_iload_n (k := 2) (by decide +kernel) rfl, ?_⟩
  refine List.forall_mem_cons.mpr ⟨ze_iload_n (k := 1) (by decide +kernel) rfl, ?_⟩
  refine List.forall_mem_cons.mpr ⟨ze_iastoreF (by decide +kernel), ?_⟩
  refine List.forall_mem_cons.mpr ⟨ze_aload_n (k := 0) (by decide +kernel) rfl, ?_⟩
  refine List.forall_mem_cons.mpr ⟨ze_getL (by decide +kernel) fl_X12_38 rfl (by decide), ?_⟩
  refine List.forall_mem_cons.mpr ⟨ze_iload_n (k := 2) (by decide +kernel) rfl, ?_⟩
  refine List.forall_mem_cons.mpr ⟨ze_iconst (n := 1) (by decide +kernel) (by decide), ?_⟩
  refine List.forall_mem_cons.mpr ⟨ze_iadd (by decide +kernel), ?_⟩
  refine List.forall_mem_cons.mpr ⟨ze_aload_n (k := 0) (by decide +kernel) rfl, ?_⟩
  refine List.forall_mem_cons.mpr ⟨ze_getI (by decide +kernel) fl_X12_329 rfl, ?_⟩
  refine List.forall_mem_cons.mpr ⟨ze_iastoreF (by decide +kernel), ?_⟩
  refine List.forall_mem_cons.mpr ⟨ze_aload_n (k := 0) (by decide +kernel) rfl, ?_⟩
  refine List.forall_mem_cons.mpr ⟨ze_getL (by decide +kernel) fl_X12_38 rfl (by decide), ?_⟩
  refine List.forall_mem_cons.mpr ⟨ze_iload_n (k := 2) (by decide +kernel) rfl, ?_⟩
  refine List.forall_mem_cons.mpr ⟨ze_iconst (n := 2) (by decide +kernel) (by decide), ?_⟩
  refine List.forall_mem_cons.mpr ⟨ze_iadd (by decide +kernel), ?_⟩
  refine List.forall_mem_cons.mpr ⟨ze_aload_n (k := 0) (by decide +kernel) rfl, ?_⟩
  refine List.forall_mem_cons.mpr ⟨ze_getL (by decide +kernel) fl_X12_38 rfl (by decide), ?_⟩
  refine List.forall_mem_cons.mpr ⟨ze_bipush (n := 7) (by decide +kernel) (by decide), ?_⟩
  refine List.forall_mem_cons.mpr ⟨ze_iald (by decide +kernel), ?_⟩
  refine List.forall_mem_cons.mpr ⟨ze_iastoreF (by decide +kernel), ?_⟩
  refine List.forall_mem_cons.mpr ⟨ze_aload_n (k := 0) (by decide +kernel) rfl, ?_⟩
  refine List.forall_mem_cons.mpr ⟨ze_getL (by decide +kernel) fl_X12_38 rfl (by decide), ?_⟩
  refine List.forall_mem_cons.mpr ⟨ze_sipush (n := 313) (by decide +kernel) (by decide), ?_⟩
  refine List.forall_mem_cons.mpr ⟨ze_dup2 (by decide +kernel), ?_⟩
  refine List.forall_mem_cons.mpr ⟨ze_iald (by decide +kernel), ?_⟩
  refine List.forall_mem_cons.mpr ⟨ze_iconst (n := 1) (by decide +kernel) (by decide), ?_⟩
  refine List.forall_mem_cons.mpr ⟨ze_iadd (by decide +kernel), ?_⟩
  refine List.forall_mem_cons.mpr ⟨ze_iastoreF (by decide +kernel), ?_⟩
  refine List.forall_mem_cons.mpr ⟨ze_vret (by decide +kernel) rfl, ?_⟩
  exact fun _ h => absurd h List.not_mem_nil
theorem vX12_notes {l : Launch} {G : GT} {d : Nat} {av : List Value} {Q : Po} {σ : Mm} (cs : List (Nat × List Nat)) (k : Nat) (h : vc l G d mX12_notes TX12_notes Q cs k TX12_notes (lv_args 0 av) [] σ) (hlen : (lg_sl av).length ≤ mX12_notes.2.2.1 := by exact Nat.le_of_ble_eq_true rfl) : MW l G d mX12_notes av σ Q := mw_vc TX12_notes_ok mc_X12_notes rfl hlen cs k rfl h
theorem wX12_notes {l : Launch} {G : GT} {d : Nat} {Q : Po} {pc : Nat} {lv : Lv} {st : List Value} {σ : Mm} (cs : List (Nat × List Nat)) (k : Nat) (h : vc l G d mX12_notes TX12_notes Q cs k (drp TX12_notes pc) lv st σ) (hpc : hdp (drp TX12_notes pc) = pc := by rfl) : Wp l G d mX12_notes pc lv st σ Q := wp_vc TX12_notes_ok cs k hpc h
def TX12_tries : List In := [(0, 1, zt_aload 0), (1, 4, zt_getL 20 20), (4, 5, zt_ic 0), (5, 6, zt_aload 0), (6, 9, zt_getL 20 21), (9, 10, zt_ic 0), (10, 13, zt_callSF mX12_copyRow 4), (13, 14, zt_aload 0), (14, 15, zt_aload 0), (15, 18, zt_getL 20 20), (18, 19, zt_iload 1), (19, 20, zt_iload 2), (20, 21, zt_iload 3), (21, 23, zt_iload 4), (23, 26, zt_callVF mX12_does 5 20), (26, 28, zt_istoreF 5), (28, 30, zt_iload 5), (30, 31, zt_ic (-1)), (31, 34, zt_icmp_eq 37), (34, 36, zt_iload 5), (36, 37, zt_iret), (37, 38, zt_aload 0), (38, 41, zt_callVF mX12_remember 0 20), (41, 42, zt_aload 0), (42, 43, zt_iload 1), (43, 46, zt_callVF mX12_notes 1 20), (46, 47, zt_ic (-1)), (47, 48, zt_iret)]
theorem TX12_tries_ok : ∀ i ∈ TX12_tries, Ent mX12_tries i := by
  refine List.forall_mem_cons.mpr ⟨ze_aload_n (k := 0) (by decide +kernel) rfl, ?_⟩
  refine List.forall_mem_cons.mpr ⟨ze_getL (by decide +kernel) fl_X12_38 rfl (by decide), ?_⟩
  refine List.forall_mem_cons.mpr ⟨ze_iconst (n := 0) (by decide +kernel) (by decide), ?_⟩
  refine List.forall_mem_cons.mpr ⟨ze_aload_n (k := 0) (by decide +kernel) rfl, ?_⟩
  refine List.forall_mem_cons.mpr ⟨ze_getL (by decide +kernel) fl_X12_41 rfl (by decide), ?_⟩
  refine List.forall_mem_cons.mpr ⟨ze_iconst (n := 0) (by decide +kernel) (by decide), ?_⟩
  refine List.forall_mem_cons.mpr ⟨ze_callSF (idx := 353) (by decide +kernel) ml_X12_353 ms_X12_copyRow, ?_⟩
  refine List.forall_mem_cons.mpr ⟨ze_aload_n (k := 0) (by decide +kernel) rfl, ?_⟩
  refine List.forall_mem_cons.mpr ⟨ze_aload_n (k := 0) (by decide +kernel) rfl, ?_⟩
  refine List.forall_mem_cons.mpr ⟨ze_getL (by decide +kernel) fl_X12_38 rfl (by decide), ?_⟩
  refine List.forall_mem_cons.mpr ⟨ze_iload_n (k := 1) (by decide +kernel) rfl, ?_⟩
  refine List.forall_mem_cons.mpr ⟨ze_iload_n (k := 2) (by decide +kernel) rfl, ?_⟩
  refine List.forall_mem_cons.mpr ⟨ze_iload_n (k := 3) (by decide +kernel) rfl, ?_⟩
  refine List.forall_mem_cons.mpr ⟨ze_iload (by decide +kernel), ?_⟩
  refine List.forall_mem_cons.mpr ⟨ze_callVF (idx := 357) (by decide +kernel) ml_X12_357 mv_X12_does rfl, ?_⟩
  refine List.forall_mem_cons.mpr ⟨ze_istoreF (by decide +kernel) (by decide), ?_⟩
  refine List.forall_mem_cons.mpr ⟨ze_iload (by decide +kernel), ?_⟩
  refine List.forall_mem_cons.mpr ⟨ze_iconst (n := -1) (by decide +kernel) (by decide), ?_⟩
  refine List.forall_mem_cons.mpr ⟨ze_icmp_eq (off := 6) (by decide +kernel) (by decide), ?_⟩
  refine List.forall_mem_cons.mpr ⟨ze_iload (by decide +kernel), ?_⟩
  refine List.forall_mem_cons.mpr ⟨ze_iret (by decide +kernel) rfl, ?_⟩
  refine List.forall_mem_cons.mpr ⟨ze_aload_n (k := 0) (by decide +kernel) rfl, ?_⟩
  refine List.forall_mem_cons.mpr ⟨ze_callVF (idx := 360) (by decide +kernel) ml_X12_360 mv_X12_remember rfl, ?_⟩
  refine List.forall_mem_cons.mpr ⟨ze_aload_n (k := 0) (by decide +kernel) rfl, ?_⟩
  refine List.forall_mem_cons.mpr ⟨ze_iload_n (k := 1) (by decide +kernel) rfl, ?_⟩
  refine List.forall_mem_cons.mpr ⟨ze_callVF (idx := 363) (by decide +kernel) ml_X12_363 mv_X12_notes rfl, ?_⟩
  refine List.forall_mem_cons.mpr ⟨ze_iconst (n := -1) (by decide +kernel) (by decide), ?_⟩
  refine List.forall_mem_cons.mpr ⟨ze_iret (by decide +kernel) rfl, ?_⟩
  exact fun _ h => absurd h List.not_mem_nil
theorem vX12_tries {l : Launch} {G : GT} {d : Nat} {av : List Value} {Q : Po} {σ : Mm} (cs : List (Nat × List Nat)) (k : Nat) (h : vc l G d mX12_tries TX12_tries Q cs k TX12_tries (lv_args 0 av) [] σ) (hlen : (lg_sl av).length ≤ mX12_tries.2.2.1 := by exact Nat.le_of_ble_eq_true rfl) : MW l G d mX12_tries av σ Q := mw_vc TX12_tries_ok mc_X12_tries rfl hlen cs k rfl h
theorem wX12_tries {l : Launch} {G : GT} {d : Nat} {Q : Po} {pc : Nat} {lv : Lv} {st : List Value} {σ : Mm} (cs : List (Nat × List Nat)) (k : Nat) (h : vc l G d mX12_tries TX12_tries Q cs k (drp TX12_tries pc) lv st σ) (hpc : hdp (drp TX12_tries pc) = pc := by rfl) : Wp l G d mX12_tries pc lv st σ Q := wp_vc TX12_tries_ok cs k hpc h
def TX12_act : List In := [(0, 1, zt_aload 0), (1, 2, zt_ic 0), (2, 5, zt_putI 20 0), (5, 6, zt_aload 0), (6, 7, zt_iload 1), (7, 8, zt_iload 2), (8, 9, zt_iload 3), (9, 11, zt_iload 4), (11, 14, zt_callVF mX12_tries 4 20), (14, 16, zt_istoreF 5), (16, 18, zt_iload 5), (18, 19, zt_ic (-1)), (19, 22, zt_icmp_ne 27), (22, 23, zt_aload 0), (23, 26, zt_getI 20 33), (26, 27, zt_iret), (27, 28, zt_aload 0), (28, 31, zt_getL 20 10), (31, 33, zt_iload 5), (33, 34, zt_dup2), (34, 35, zt_iald), (35, 36, zt_ic 1), (36, 37, zt_iadd), (37, 38, zt_iastoreF), (38, 39, zt_ic (-1)), (39, 40, zt_iret)]
theorem TX12_act_ok : ∀ i ∈ TX12_act, Ent mX12_act i := by
  refine List.forall_mem_cons.mpr ⟨ze_aload_n (k := 0) (by decide +kernel) rfl, ?_⟩
  refine List.forall_mem_cons.mpr ⟨ze_iconst (n := 0) (by decide +kernel) (by decide), ?_⟩
  refine List.forall_mem_cons.mpr ⟨ze_putI (by decide +kernel) fl_X12_82 ⟨_, _, _, rfl, rfl, by decide +kernel⟩ rfl, ?_⟩
  refine List.forall_mem_cons.mpr ⟨ze_aload_n (k := 0) (by decide +kernel) rfl, ?_⟩
  refine List.forall_mem_cons.mpr ⟨ze_iload_n (k := 1) (by decide +kernel) rfl, ?_⟩
  refine List.forall_mem_cons.mpr ⟨ze_iload_n (k := 2) (by decide +kernel) rfl, ?_⟩
  refine List.forall_mem_cons.mpr ⟨ze_iload_n (k := 3) (by decide +kernel) rfl, ?_⟩
  refine List.forall_mem_cons.mpr ⟨ze_iload (by decide +kernel), ?_⟩
  refine List.forall_mem_cons.mpr ⟨ze_callVF (idx := 366) (by decide +kernel) ml_X12_366 mv_X12_tries rfl, ?_⟩
  refine List.forall_mem_cons.mpr ⟨ze_istoreF (by decide +kernel) (by decide), ?_⟩
  refine List.forall_mem_cons.mpr ⟨ze_iload (by decide +kernel), ?_⟩
  refine List.forall_mem_cons.mpr ⟨ze_iconst (n := -1) (by decide +kernel) (by decide), ?_⟩
  refine List.forall_mem_cons.mpr ⟨ze_icmp_ne (off := 8) (by decide +kernel) (by decide), ?_⟩
  refine List.forall_mem_cons.mpr ⟨ze_aload_n (k := 0) (by decide +kernel) rfl, ?_⟩
  refine List.forall_mem_cons.mpr ⟨ze_getI (by decide +kernel) fl_X12_316 rfl, ?_⟩
  refine List.forall_mem_cons.mpr ⟨ze_iret (by decide +kernel) rfl, ?_⟩
  refine List.forall_mem_cons.mpr ⟨ze_aload_n (k := 0) (by decide +kernel) rfl, ?_⟩
  refine List.forall_mem_cons.mpr ⟨ze_getL (by decide +kernel) fl_X12_29 rfl (by decide), ?_⟩
  refine List.forall_mem_cons.mpr ⟨ze_iload (by decide +kernel), ?_⟩
  refine List.forall_mem_cons.mpr ⟨ze_dup2 (by decide +kernel), ?_⟩
  refine List.forall_mem_cons.mpr ⟨ze_iald (by decide +kernel), ?_⟩
  refine List.forall_mem_cons.mpr ⟨ze_iconst (n := 1) (by decide +kernel) (by decide), ?_⟩
  refine List.forall_mem_cons.mpr ⟨ze_iadd (by decide +kernel), ?_⟩
  refine List.forall_mem_cons.mpr ⟨ze_iastoreF (by decide +kernel), ?_⟩
  refine List.forall_mem_cons.mpr ⟨ze_iconst (n := -1) (by decide +kernel) (by decide), ?_⟩
  refine List.forall_mem_cons.mpr ⟨ze_iret (by decide +kernel) rfl, ?_⟩
  exact fun _ h => absurd h List.not_mem_nil
theorem vX12_act {l : Launch} {G : GT} {d : Nat} {av : List Value} {Q : Po} {σ : Mm} (cs : List (Nat × List Nat)) (k : Nat) (h : vc l G d mX12_act TX12_act Q cs k TX12_act (lv_args 0 av) [] σ) (hlen : (lg_sl av).length ≤ mX12_act.2.2.1 := by exact Nat.le_of_ble_eq_true rfl) : MW l G d mX12_act av σ Q := mw_vc TX12_act_ok mc_X12_act rfl hlen cs k rfl h
theorem wX12_act {l : Launch} {G : GT} {d : Nat} {Q : Po} {pc : Nat} {lv : Lv} {st : List Value} {σ : Mm} (cs : List (Nat × List Nat)) (k : Nat) (h : vc l G d mX12_act TX12_act Q cs k (drp TX12_act pc) lv st σ) (hpc : hdp (drp TX12_act pc) = pc := by rfl) : Wp l G d mX12_act pc lv st σ Q := wp_vc TX12_act_ok cs k hpc h
def TX12_up : List In := [(0, 1, zt_aload 0), (1, 2, zt_ic 0), (2, 3, zt_ic 0), (3, 4, zt_ic 0), (4, 5, zt_ic 0), (5, 8, zt_callVF mX12_act 4 20), (8, 9, zt_iret)]
theorem TX12_up_ok : ∀ i ∈ TX12_up, Ent mX12_up i := by
  refine List.forall_mem_cons.mpr ⟨ze_aload_n (k := 0) (by decide +kernel) rfl, ?_⟩
  refine List.forall_mem_cons.mpr ⟨ze_iconst (n := 0) (by decide +kernel) (by decide), ?_⟩
  refine List.forall_mem_cons.mpr ⟨ze_iconst (n := 0) (by decide +kernel) (by decide), ?_⟩
  refine List.forall_mem_cons.mpr ⟨ze_iconst (n := 0) (by decide +kernel) (by decide), ?_⟩
  refine List.forall_mem_cons.mpr ⟨ze_iconst (n := 0) (by decide +kernel) (by decide), ?_⟩
  refine List.forall_mem_cons.mpr ⟨ze_callVF (idx := 369) (by decide +kernel) ml_X12_369 mv_X12_act rfl, ?_⟩
  refine List.forall_mem_cons.mpr ⟨ze_iret (by decide +kernel) rfl, ?_⟩
  exact fun _ h => absurd h List.not_mem_nil
theorem vX12_up {l : Launch} {G : GT} {d : Nat} {av : List Value} {Q : Po} {σ : Mm} (cs : List (Nat × List Nat)) (k : Nat) (h : vc l G d mX12_up TX12_up Q cs k TX12_up (lv_args 0 av) [] σ) (hlen : (lg_sl av).length ≤ mX12_up.2.2.1 := by exact Nat.le_of_ble_eq_true rfl) : MW l G d mX12_up av σ Q := mw_vc TX12_up_ok mc_X12_up rfl hlen cs k rfl h
theorem wX12_up {l : Launch} {G : GT} {d : Nat} {Q : Po} {pc : Nat} {lv : Lv} {st : List Value} {σ : Mm} (cs : List (Nat × List Nat)) (k : Nat) (h : vc l G d mX12_up TX12_up Q cs k (drp TX12_up pc) lv st σ) (hpc : hdp (drp TX12_up pc) = pc := by rfl) : Wp l G d mX12_up pc lv st σ Q := wp_vc TX12_up_ok cs k hpc h
def TX12_down : List In := [(0, 1, zt_aload 0), (1, 2, zt_ic 1), (2, 3, zt_ic 0), (3, 4, zt_ic 0), (4, 5, zt_ic 0), (5, 8, zt_callVF mX12_act 4 20), (8, 9, zt_iret)]
theorem TX12_down_ok : ∀ i ∈ TX12_down, Ent mX12_down i := by
  refine List.forall_mem_cons.mpr ⟨ze_aload_n (k := 0) (by decide +kernel) rfl, ?_⟩
  refine List.forall_mem_cons.mpr ⟨ze_iconst (n := 1) (by decide +kernel) (by decide), ?_⟩
  refine List.forall_mem_cons.mpr ⟨ze_iconst (n := 0) (by decide +kernel) (by decide), ?_⟩
  refine List.forall_mem_cons.mpr ⟨ze_iconst (n := 0) (by decide +kernel) (by decide), ?_⟩
  refine List.forall_mem_cons.mpr ⟨ze_iconst (n := 0) (by decide +kernel) (by decide), ?_⟩
  refine List.forall_mem_cons.mpr ⟨ze_callVF (idx := 369) (by decide +kernel) ml_X12_369 mv_X12_act rfl, ?_⟩
  refine List.forall_mem_cons.mpr ⟨ze_iret (by decide +kernel) rfl, ?_⟩
  exact fun _ h => absurd h List.not_mem_nil
theorem vX12_down {l : Launch} {G : GT} {d : Nat} {av : List Value} {Q : Po} {σ : Mm} (cs : List (Nat × List Nat)) (k : Nat) (h : vc l G d mX12_down TX12_down Q cs k TX12_down (lv_args 0 av) [] σ) (hlen : (lg_sl av).length ≤ mX12_down.2.2.1 := by exact Nat.le_of_ble_eq_true rfl) : MW l G d mX12_down av σ Q := mw_vc TX12_down_ok mc_X12_down rfl hlen cs k rfl h
theorem wX12_down {l : Launch} {G : GT} {d : Nat} {Q : Po} {pc : Nat} {lv : Lv} {st : List Value} {σ : Mm} (cs : List (Nat × List Nat)) (k : Nat) (h : vc l G d mX12_down TX12_down Q cs k (drp TX12_down pc) lv st σ) (hpc : hdp (drp TX12_down pc) = pc := by rfl) : Wp l G d mX12_down pc lv st σ Q := wp_vc TX12_down_ok cs k hpc h
def TX12_call : List In := [(0, 1, zt_aload 0), (1, 2, zt_ic 2), (2, 3, zt_ic 0), (3, 4, zt_ic 0), (4, 5, zt_ic 0), (5, 8, zt_callVF mX12_act 4 20), (8, 9, zt_iret)]
theorem TX12_call_ok : ∀ i ∈ TX12_call, Ent mX12_call i := by
  refine List.forall_mem_cons.mpr ⟨ze_aload_n (k := 0) (by decide +kernel) rfl, ?_⟩
  refine List.forall_mem_cons.mpr ⟨ze_iconst (n := 2) (by decide +kernel) (by decide), ?_⟩
  refine List.forall_mem_cons.mpr ⟨ze_iconst (n := 0) (by decide +kernel) (by decide), ?_⟩
  refine List.forall_mem_cons.mpr ⟨ze_iconst (n := 0) (by decide +kernel) (by decide), ?_⟩
  refine List.forall_mem_cons.mpr ⟨ze_iconst (n := 0) (by decide +kernel) (by decide), ?_⟩
  refine List.forall_mem_cons.mpr ⟨ze_callVF (idx := 369) (by decide +kernel) ml_X12_369 mv_X12_act rfl, ?_⟩
  refine List.forall_mem_cons.mpr ⟨ze_iret (by decide +kernel) rfl, ?_⟩
  exact fun _ h => absurd h List.not_mem_nil
theorem vX12_call {l : Launch} {G : GT} {d : Nat} {av : List Value} {Q : Po} {σ : Mm} (cs : List (Nat × List Nat)) (k : Nat) (h : vc l G d mX12_call TX12_call Q cs k TX12_call (lv_args 0 av) [] σ) (hlen : (lg_sl av).length ≤ mX12_call.2.2.1 := by exact Nat.le_of_ble_eq_true rfl) : MW l G d mX12_call av σ Q := mw_vc TX12_call_ok mc_X12_call rfl hlen cs k rfl h
theorem wX12_call {l : Launch} {G : GT} {d : Nat} {Q : Po} {pc : Nat} {lv : Lv} {st : List Value} {σ : Mm} (cs : List (Nat × List Nat)) (k : Nat) (h : vc l G d mX12_call TX12_call Q cs k (drp TX12_call pc) lv st σ) (hpc : hdp (drp TX12_call pc) = pc := by rfl) : Wp l G d mX12_call pc lv st σ Q := wp_vc TX12_call_ok cs k hpc h
def TX12_refund : List In := [(0, 1, zt_aload 0), (1, 2, zt_ic 3), (2, 3, zt_ic 0), (3, 4, zt_ic 0), (4, 5, zt_ic 0), (5, 8, zt_callVF mX12_act 4 20), (8, 9, zt_iret)]
theorem TX12_refund_ok : ∀ i ∈ TX12_refund, Ent mX12_refund i := by
  refine List.forall_mem_cons.mpr ⟨ze_aload_n (k := 0) (by decide +kernel) rfl, ?_⟩
  refine List.forall_mem_cons.mpr ⟨ze_iconst (n := 3) (by decide +kernel) (by decide), ?_⟩
  refine List.forall_mem_cons.mpr ⟨ze_iconst (n := 0) (by decide +kernel) (by decide), ?_⟩
  refine List.forall_mem_cons.mpr ⟨ze_iconst (n := 0) (by decide +kernel) (by decide), ?_⟩
  refine List.forall_mem_cons.mpr ⟨ze_iconst (n := 0) (by decide +kernel) (by decide), ?_⟩
  refine List.forall_mem_cons.mpr ⟨ze_callVF (idx := 369) (by decide +kernel) ml_X12_369 mv_X12_act rfl, ?_⟩
  refine List.forall_mem_cons.mpr ⟨ze_iret (by decide +kernel) rfl, ?_⟩
  exact fun _ h => absurd h List.not_mem_nil
theorem vX12_refund {l : Launch} {G : GT} {d : Nat} {av : List Value} {Q : Po} {σ : Mm} (cs : List (Nat × List Nat)) (k : Nat) (h : vc l G d mX12_refund TX12_refund Q cs k TX12_refund (lv_args 0 av) [] σ) (hlen : (lg_sl av).length ≤ mX12_refund.2.2.1 := by exact Nat.le_of_ble_eq_true rfl) : MW l G d mX12_refund av σ Q := mw_vc TX12_refund_ok mc_X12_refund rfl hlen cs k rfl h
theorem wX12_refund {l : Launch} {G : GT} {d : Nat} {Q : Po} {pc : Nat} {lv : Lv} {st : List Value} {σ : Mm} (cs : List (Nat × List Nat)) (k : Nat) (h : vc l G d mX12_refund TX12_refund Q cs k (drp TX12_refund pc) lv st σ) (hpc : hdp (drp TX12_refund pc) = pc := by rfl) : Wp l G d mX12_refund pc lv st σ Q := wp_vc TX12_refund_ok cs k hpc h
def TX12_withdraw : List In := [(0, 1, zt_aload 0), (1, 2, zt_ic 4), (2, 3, zt_ic 0), (3, 4, zt_ic 0), (4, 5, zt_ic 0), (5, 8, zt_callVF mX12_act 4 20), (8, 9, zt_iret)]
theorem TX12_withdraw_ok : ∀ i ∈ TX12_withdraw, Ent mX12_withdraw i := by
  refine List.forall_mem_cons.mpr ⟨ze_aload_n (k := 0) (by decide +kernel) rfl, ?_⟩
  refine List.forall_mem_cons.mpr ⟨ze_iconst (n := 4) (by decide +kernel) (by decide), ?_⟩
  refine List.forall_mem_cons.mpr ⟨ze_iconst (n := 0) (by decide +kernel) (by decide), ?_⟩
  refine List.forall_mem_cons.mpr ⟨ze_iconst (n := 0) (by decide +kernel) (by decide), ?_⟩
  refine List.forall_mem_cons.mpr ⟨ze_iconst (n := 0) (by decide +kernel) (by decide), ?_⟩
  refine List.forall_mem_cons.mpr ⟨ze_callVF (idx := 369) (by decide +kernel) ml_X12_369 mv_X12_act rfl, ?_⟩
  refine List.forall_mem_cons.mpr ⟨ze_iret (by decide +kernel) rfl, ?_⟩
  exact fun _ h => absurd h List.not_mem_nil
theorem vX12_withdraw {l : Launch} {G : GT} {d : Nat} {av : List Value} {Q : Po} {σ : Mm} (cs : List (Nat × List Nat)) (k : Nat) (h : vc l G d mX12_withdraw TX12_withdraw Q cs k TX12_withdraw (lv_args 0 av) [] σ) (hlen : (lg_sl av).length ≤ mX12_withdraw.2.2.1 := by exact Nat.le_of_ble_eq_true rfl) : MW l G d mX12_withdraw av σ Q := mw_vc TX12_withdraw_ok mc_X12_withdraw rfl hlen cs k rfl h
theorem wX12_withdraw {l : Launch} {G : GT} {d : Nat} {Q : Po} {pc : Nat} {lv : Lv} {st : List Value} {σ : Mm} (cs : List (Nat × List Nat)) (k : Nat) (h : vc l G d mX12_withdraw TX12_withdraw Q cs k (drp TX12_withdraw pc) lv st σ) (hpc : hdp (drp TX12_withdraw pc) = pc := by rfl) : Wp l G d mX12_withdraw pc lv st σ Q := wp_vc TX12_withdraw_ok cs k hpc h
def TX12_instal : List In := [(0, 1, zt_aload 0), (1, 2, zt_ic 5), (2, 3, zt_iload 1), (3, 4, zt_iload 2), (4, 5, zt_ic 0), (5, 8, zt_callVF mX12_act 4 20), (8, 9, zt_iret)]
theorem TX12_instal_ok : ∀ i ∈ TX12_instal, Ent mX12_instal i := by
  refine List.forall_mem_cons.mpr ⟨ze_aload_n (k := 0) (by decide +kernel) rfl, ?_⟩
  refine List.forall_mem_cons.mpr ⟨ze_iconst (n := 5) (by decide +kernel) (by decide), ?_⟩
  refine List.forall_mem_cons.mpr ⟨ze_iload_n (k := 1) (by decide +kernel) rfl, ?_⟩
  refine List.forall_mem_cons.mpr ⟨ze_iload_n (k := 2) (by decide +kernel) rfl, ?_⟩
  refine List.forall_mem_cons.mpr ⟨ze_iconst (n := 0) (by decide +kernel) (by decide), ?_⟩
  refine List.forall_mem_cons.mpr ⟨ze_callVF (idx := 369) (by decide +kernel) ml_X12_369 mv_X12_act rfl, ?_⟩
  refine List.forall_mem_cons.mpr ⟨ze_iret (by decide +kernel) rfl, ?_⟩
  exact fun _ h => absurd h List.not_mem_nil
theorem vX12_instal {l : Launch} {G : GT} {d : Nat} {av : List Value} {Q : Po} {σ : Mm} (cs : List (Nat × List Nat)) (k : Nat) (h : vc l G d mX12_instal TX12_instal Q cs k TX12_instal (lv_args 0 av) [] σ) (hlen : (lg_sl av).length ≤ mX12_instal.2.2.1 := by exact Nat.le_of_ble_eq_true rfl) : MW l G d mX12_instal av σ Q := mw_vc TX12_instal_ok mc_X12_instal rfl hlen cs k rfl h
theorem wX12_instal {l : Launch} {G : GT} {d : Nat} {Q : Po} {pc : Nat} {lv : Lv} {st : List Value} {σ : Mm} (cs : List (Nat × List Nat)) (k : Nat) (h : vc l G d mX12_instal TX12_instal Q cs k (drp TX12_instal pc) lv st σ) (hpc : hdp (drp TX12_instal pc) = pc := by rfl) : Wp l G d mX12_instal pc lv st σ Q := wp_vc TX12_instal_ok cs k hpc h
def TX12_tell : List In := [(0, 1, zt_aload 0), (1, 3, zt_ic 6), (3, 4, zt_iload 1), (4, 5, zt_iload 2), (5, 6, zt_iload 3), (6, 9, zt_callVF mX12_act 4 20), (9, 10, zt_iret)]
theorem TX12_tell_ok : ∀ i ∈ TX12_tell, Ent mX12_tell i := by
  refine List.forall_mem_cons.mpr ⟨ze_aload_n (k := 0) (by decide +kernel) rfl, ?_⟩
  refine List.forall_mem_cons.mpr ⟨ze_bipush (n := 6) (by decide +kernel) (by decide), ?_⟩
  refine List.forall_mem_cons.mpr ⟨ze_iload_n (k := 1) (by decide +kernel) rfl, ?_⟩
  refine List.forall_mem_cons.mpr ⟨ze_iload_n (k := 2) (by decide +kernel) rfl, ?_⟩
  refine List.forall_mem_cons.mpr ⟨ze_iload_n (k := 3) (by decide +kernel) rfl, ?_⟩
  refine List.forall_mem_cons.mpr ⟨ze_callVF (idx := 369) (by decide +kernel) ml_X12_369 mv_X12_act rfl, ?_⟩
  refine List.forall_mem_cons.mpr ⟨ze_iret (by decide +kernel) rfl, ?_⟩
  exact fun _ h => absurd h List.not_mem_nil
theorem vX12_tell {l : Launch} {G : GT} {d : Nat} {av : List Value} {Q : Po} {σ : Mm} (cs : List (Nat × List Nat)) (k : Nat) (h : vc l G d mX12_tell TX12_tell Q cs k TX12_tell (lv_args 0 av) [] σ) (hlen : (lg_sl av).length ≤ mX12_tell.2.2.1 := by exact Nat.le_of_ble_eq_true rfl) : MW l G d mX12_tell av σ Q := mw_vc TX12_tell_ok mc_X12_tell rfl hlen cs k rfl h
theorem wX12_tell {l : Launch} {G : GT} {d : Nat} {Q : Po} {pc : Nat} {lv : Lv} {st : List Value} {σ : Mm} (cs : List (Nat × List Nat)) (k : Nat) (h : vc l G d mX12_tell TX12_tell Q cs k (drp TX12_tell pc) lv st σ) (hpc : hdp (drp TX12_tell pc) = pc := by rfl) : Wp l G d mX12_tell pc lv st σ Q := wp_vc TX12_tell_ok cs k hpc h
def TX12_doBest : List In := [(0, 1, zt_aload 0), (1, 3, zt_ic 7), (3, 4, zt_ic 0), (4, 5, zt_ic 0), (5, 6, zt_ic 0), (6, 9, zt_callVF mX12_act 4 20), (9, 10, zt_iret)]
theorem TX12_doBest_ok : ∀ i ∈ TX12_doBest, Ent mX12_doBest i := by
  refine List.forall_mem_cons.mpr ⟨ze_aload_n (k := 0) (by decide +kernel) rfl, ?_⟩
  refine List.forall_mem_cons.mpr ⟨ze_bipush (n := 7) (by decide +kernel) (by decide), ?_⟩
  refine List.forall_mem_cons.mpr ⟨ze_iconst (n := 0) (by decide +kernel) (by decide), ?_⟩
  refine List.forall_mem_cons.mpr ⟨ze_iconst (n := 0) (by decide +kernel) (by decide), ?_⟩
  refine List.forall_mem_cons.mpr ⟨ze_iconst (n := 0) (by decide +kernel) (by decide), ?_⟩
  refine List.forall_mem_cons.mpr ⟨ze_callVF (idx := 369) (by decide +kernel) ml_X12_369 mv_X12_act rfl, ?_⟩
  refine List.forall_mem_cons.mpr ⟨ze_iret (by decide +kernel) rfl, ?_⟩
  exact fun _ h => absurd h List.not_mem_nil
theorem vX12_doBest {l : Launch} {G : GT} {d : Nat} {av : List Value} {Q : Po} {σ : Mm} (cs : List (Nat × List Nat)) (k : Nat) (h : vc l G d mX12_doBest TX12_doBest Q cs k TX12_doBest (lv_args 0 av) [] σ) (hlen : (lg_sl av).length ≤ mX12_doBest.2.2.1 := by exact Nat.le_of_ble_eq_true rfl) : MW l G d mX12_doBest av σ Q := mw_vc TX12_doBest_ok mc_X12_doBest rfl hlen cs k rfl h
theorem wX12_doBest {l : Launch} {G : GT} {d : Nat} {Q : Po} {pc : Nat} {lv : Lv} {st : List Value} {σ : Mm} (cs : List (Nat × List Nat)) (k : Nat) (h : vc l G d mX12_doBest TX12_doBest Q cs k (drp TX12_doBest pc) lv st σ) (hpc : hdp (drp TX12_doBest pc) = pc := by rfl) : Wp l G d mX12_doBest pc lv st σ Q := wp_vc TX12_doBest_ok cs k hpc h
def TX12_adopt : List In := [(0, 1, zt_aload 0), (1, 3, zt_ic 8), (3, 4, zt_ic 0), (4, 5, zt_ic 0), (5, 6, zt_ic 0), (6, 9, zt_callVF mX12_act 4 20), (9, 10, zt_iret)]
theorem TX12_adopt_ok : ∀ i ∈ TX12_adopt, Ent mX12_adopt i := by
  refine List.forall_mem_cons.mpr ⟨ze_aload_n (k := 0) (by decide +kernel) rfl, ?_⟩
  refine List.forall_mem_cons.mpr ⟨ze_bipush (n := 8) (by decide +kernel) (by decide), ?_⟩
  refine List.forall_mem_cons.mpr ⟨ze_iconst (n := 0) (by decide +kernel) (by decide), ?_⟩
  refine List.forall_mem_cons.mpr ⟨ze_iconst (n := 0) (by decide +kernel) (by decide), ?_⟩
  refine List.forall_mem_cons.mpr ⟨ze_iconst (n := 0) (by decide +kernel) (by decide), ?_⟩
  refine List.forall_mem_cons.mpr ⟨ze_callVF (idx := 369) (by decide +kernel) ml_X12_369 mv_X12_act rfl, ?_⟩
  refine List.forall_mem_cons.mpr ⟨ze_iret (by decide +kernel) rfl, ?_⟩
  exact fun _ h => absurd h List.not_mem_nil
theorem vX12_adopt {l : Launch} {G : GT} {d : Nat} {av : List Value} {Q : Po} {σ : Mm} (cs : List (Nat × List Nat)) (k : Nat) (h : vc l G d mX12_adopt TX12_adopt Q cs k TX12_adopt (lv_args 0 av) [] σ) (hlen : (lg_sl av).length ≤ mX12_adopt.2.2.1 := by exact Nat.le_of_ble_eq_true rfl) : MW l G d mX12_adopt av σ Q := mw_vc TX12_adopt_ok mc_X12_adopt rfl hlen cs k rfl h
theorem wX12_adopt {l : Launch} {G : GT} {d : Nat} {Q : Po} {pc : Nat} {lv : Lv} {st : List Value} {σ : Mm} (cs : List (Nat × List Nat)) (k : Nat) (h : vc l G d mX12_adopt TX12_adopt Q cs k (drp TX12_adopt pc) lv st σ) (hpc : hdp (drp TX12_adopt pc) = pc := by rfl) : Wp l G d mX12_adopt pc lv st σ Q := wp_vc TX12_adopt_ok cs k hpc h
def TX12_follow : List In := [(0, 1, zt_aload 0), (1, 3, zt_ic 9), (3, 4, zt_ic 0), (4, 5, zt_ic 0), (5, 6, zt_ic 0), (6, 9, zt_callVF mX12_act 4 20), (9, 10, zt_iret)]
theorem TX12_follow_ok : ∀ i ∈ TX12_follow, Ent mX12_follow i := by
  refine List.forall_mem_cons.mpr ⟨ze_aload_n (k := 0) (by decide +kernel) rfl, ?_⟩
  refine List.forall_mem_cons.mpr ⟨ze_bipush (n := 9) (by decide +kernel) (by decide), ?_⟩
  refine List.forall_mem_cons.mpr ⟨ze_iconst (n := 0) (by decide +kernel) (by decide), ?_⟩
  refine List.forall_mem_cons.mpr ⟨ze_iconst (n := 0) (by decide +kernel) (by decide), ?_⟩
  refine List.forall_mem_cons.mpr ⟨ze_iconst (n := 0) (by decide +kernel) (by decide), ?_⟩
  refine List.forall_mem_cons.mpr ⟨ze_callVF (idx := 369) (by decide +kernel) ml_X12_369 mv_X12_act rfl, ?_⟩
  refine List.forall_mem_cons.mpr ⟨ze_iret (by decide +kernel) rfl, ?_⟩
  exact fun _ h => absurd h List.not_mem_nil
theorem vX12_follow {l : Launch} {G : GT} {d : Nat} {av : List Value} {Q : Po} {σ : Mm} (cs : List (Nat × List Nat)) (k : Nat) (h : vc l G d mX12_follow TX12_follow Q cs k TX12_follow (lv_args 0 av) [] σ) (hlen : (lg_sl av).length ≤ mX12_follow.2.2.1 := by exact Nat.le_of_ble_eq_true rfl) : MW l G d mX12_follow av σ Q := mw_vc TX12_follow_ok mc_X12_follow rfl hlen cs k rfl h
theorem wX12_follow {l : Launch} {G : GT} {d : Nat} {Q : Po} {pc : Nat} {lv : Lv} {st : List Value} {σ : Mm} (cs : List (Nat × List Nat)) (k : Nat) (h : vc l G d mX12_follow TX12_follow Q cs k (drp TX12_follow pc) lv st σ) (hpc : hdp (drp TX12_follow pc) = pc := by rfl) : Wp l G d mX12_follow pc lv st σ Q := wp_vc TX12_follow_ok cs k hpc h
def TX12_draw : List In := [(0, 1, zt_aload 0), (1, 2, zt_aload 0), (2, 5, zt_getJ 20 36), (5, 8, zt_lc (6364136223846793005 : Int64)), (8, 9, zt_lmul), (9, 12, zt_lc (1442695040888963407 : Int64)), (12, 13, zt_ladd), (13, 16, zt_putJ 20 36), (16, 17, zt_aload 0), (17, 20, zt_getJ 20 36), (20, 22, zt_ic 33), (22, 23, zt_lushr), (23, 24, zt_iload 1), (24, 25, zt_i2l), (25, 26, zt_lrem), (26, 27, zt_l2i), (27, 28, zt_iret)]
theorem TX12_draw_ok : ∀ i ∈ TX12_draw, Ent mX12_draw i := by
  refine List.forall_mem_cons.mpr ⟨ze_aload_n (k := 0) (by decide +kernel) rfl, ?_⟩
  refine List.forall_mem_cons.mpr ⟨ze_aload_n (k := 0) (by decide +kernel) rfl, ?_⟩
  refine List.forall_mem_cons.mpr ⟨ze_getJ (by decide +kernel) fl_X12_372 rfl, ?_⟩
  refine List.forall_mem_cons.mpr ⟨ze_ldc2 (i := 376) (by decide +kernel) kc_X12_376, ?_⟩
  refine List.forall_mem_cons.mpr ⟨ze_lmul (by decide +kernel), ?_⟩
  refine List.forall_mem_cons.mpr ⟨ze_ldc2 (i := 378) (by decide +kernel) kc_X12_378, ?_⟩
  refine List.forall_mem_cons.mpr ⟨ze_ladd (by decide +kernel), ?_⟩
  refine List.forall_mem_cons.mpr ⟨ze_putJ (by decide +kernel) fl_X12_372 ⟨_, _, _, rfl, rfl, by decide +kernel⟩ rfl, ?_⟩
  refine List.forall_mem_cons.mpr ⟨ze_aload_n (k := 0) (by decide +kernel) rfl, ?_⟩
  refine List.forall_mem_cons.mpr ⟨ze_getJ (by decide +kernel) fl_X12_372 rfl, ?_⟩
  refine List.forall_mem_cons.mpr ⟨ze_bipush (n := 33) (by decide +kernel) (by decide), ?_⟩
  refine List.forall_mem_cons.mpr ⟨ze_lushr (by decide +kernel), ?_⟩
  refine List.forall_mem_cons.mpr ⟨ze_iload_n (k := 1) (by decide +kernel) rfl, ?_⟩
  refine List.forall_mem_cons.mpr ⟨ze_i2l (by decide +kernel), ?_⟩
  refine List.forall_mem_cons.mpr ⟨ze_lrem (by decide +kernel), ?_⟩
  refine List.forall_mem_cons.mpr ⟨ze_l2i (by decide +kernel), ?_⟩
  refine List.forall_mem_cons.mpr ⟨ze_iret (by decide +kernel) rfl, ?_⟩
  exact fun _ h => absurd h List.not_mem_nil
theorem vX12_draw {l : Launch} {G : GT} {d : Nat} {av : List Value} {Q : Po} {σ : Mm} (cs : List (Nat × List Nat)) (k : Nat) (h : vc l G d mX12_draw TX12_draw Q cs k TX12_draw (lv_args 0 av) [] σ) (hlen : (lg_sl av).length ≤ mX12_draw.2.2.1 := by exact Nat.le_of_ble_eq_true rfl) : MW l G d mX12_draw av σ Q := mw_vc TX12_draw_ok mc_X12_draw rfl hlen cs k rfl h
theorem wX12_draw {l : Launch} {G : GT} {d : Nat} {Q : Po} {pc : Nat} {lv : Lv} {st : List Value} {σ : Mm} (cs : List (Nat × List Nat)) (k : Nat) (h : vc l G d mX12_draw TX12_draw Q cs k (drp TX12_draw pc) lv st σ) (hpc : hdp (drp TX12_draw pc) = pc := by rfl) : Wp l G d mX12_draw pc lv st σ Q := wp_vc TX12_draw_ok cs k hpc h
def TX12_happens : List In := [(0, 1, zt_aload 0), (1, 3, zt_ic 8), (3, 6, zt_callVF mX12_draw 1 20), (6, 7, zt_istoreF 1), (7, 8, zt_iload 1), (8, 9, zt_ic 3), (9, 12, zt_icmp_ge 41), (12, 13, zt_aload 0), (13, 14, zt_aload 0), (14, 16, zt_ic 100), (16, 19, zt_callVF mX12_draw 1 20), (19, 20, zt_aload 0), (20, 23, zt_getL 20 6), (23, 25, zt_ic 6), (25, 26, zt_iald), (26, 29, zt_icmp_ge 33), (29, 30, zt_ic 0), (30, 33, zt_goto 34), (33, 34, zt_ic 1), (34, 35, zt_ic 0), (35, 36, zt_ic 0), (36, 37, zt_ic 0), (37, 40, zt_callVF mX12_tries 4 20), (40, 41, zt_iret), (41, 42, zt_iload 1), (42, 43, zt_ic 3), (43, 46, zt_icmp_ne 56), (46, 47, zt_aload 0), (47, 49, zt_ic 7), (49, 50, zt_ic 0), (50, 51, zt_ic 0), (51, 52, zt_ic 0), (52, 55, zt_callVF mX12_tries 4 20), (55, 56, zt_iret), (56, 57, zt_iload 1), (57, 58, zt_ic 4), (58, 61, zt_icmp_ne 76), (61, 62, zt_aload 0), (62, 63, zt_ic 2), (63, 64, zt_aload 0), (64, 65, zt_ic 3), (65, 68, zt_callVF mX12_draw 1 20), (68, 69, zt_iadd), (69, 70, zt_ic 0), (70, 71, zt_ic 0), (71, 72, zt_ic 0), (72, 75, zt_callVF mX12_tries 4 20), (75, 76, zt_iret), (76, 77, zt_iload 1), (77, 78, zt_ic 5), (78, 81, zt_icmp_ne 105), (81, 82, zt_aload 0), (82, 84, zt_ic 12), (84, 87, zt_callVF mX12_draw 1 20), (87, 88, zt_ic 1), (88, 89, zt_iadd), (89, 90, zt_istoreF 2), (90, 91, zt_aload 0), (91, 92, zt_ic 5), (92, 93, zt_iload 2), (93, 94, zt_aload 0), (94, 97, zt_ic 1000), (97, 100, zt_callVF mX12_draw 1 20), (100, 101, zt_ic 0), (101, 104, zt_callVF mX12_tries 4 20), (104, 105, zt_iret), (105, 106, zt_aload 0), (106, 108, zt_ic 12), (108, 111, zt_callVF mX12_draw 1 20), (111, 112, zt_istoreF 2), (112, 113, zt_aload 0), (113, 115, zt_ic 12), (115, 118, zt_callVF mX12_draw 1 20), (118, 119, zt_istoreF 3), (119, 120, zt_aload 0), (120, 122, zt_ic 6), (122, 123, zt_iload 2), (123, 124, zt_iload 3), (124, 125, zt_aload 0), (125, 128, zt_ic 200), (128, 131, zt_callVF mX12_draw 1 20), (131, 134, zt_callVF mX12_tries 4 20), (134, 135, zt_iret)]
theorem TX12_happens_ok : ∀ i ∈ TX12_happens, Ent mX12_happens i := by
  refine List.forall_mem_cons.mpr ⟨ze_aload_n (k := 0) (by decide +kernel) rfl, ?_⟩
  refine List.forall_mem_cons.mpr ⟨ze_bipush (n := 8) (by decide +kernel) (by decide), ?_⟩
  refine List.forall_mem_cons.mpr ⟨ze_callVF (idx := 380) (by decide +kernel) ml_X12_380 mv_X12_draw rfl, ?_⟩
  refine List.forall_mem_cons.mpr ⟨ze_istoreF_n (k := 1) (by decide +kernel) rfl (by decide), ?_⟩
  refine List.forall_mem_cons.mpr ⟨ze_iload_n (k := 1) (by decide +kernel) rfl, ?_⟩
  refine List.forall_mem_cons.mpr ⟨ze_iconst (n := 3) (by decide +kernel) (by decide), ?_⟩
  refine List.forall_mem_cons.mpr ⟨ze_icmp_ge (off := 32) (by decide +kernel) (by decide), ?_⟩
  refine List.forall_mem_cons.mpr ⟨ze_aload_n (k := 0) (by decide +kernel) rfl, ?_⟩
  refine List.forall_mem_cons.mpr ⟨ze_aload_n (k := 0) (by decide +kernel) rfl, ?_⟩
  refine List.forall_mem_cons.mpr ⟨ze_bipush (n := 100) (by decide +kernel) (by decide), ?_⟩
  refine List.forall_mem_cons.mpr ⟨ze_callVF (idx := 380) (by decide +kernel) ml_X12_380 mv_X12_draw rfl, ?_⟩
  refine List.forall_mem_cons.mpr ⟨ze_aload_n (k := 0) (by decide +kernel) rfl, ?_⟩
  refine List.forall_mem_cons.mpr ⟨ze_getL (by decide +kernel) fl_X12_17 rfl (by decide), ?_⟩
  refine List.forall_mem_cons.mpr ⟨ze_bipush (n := 6) (by decide +kernel) (by decide), ?_⟩
  refine List.forall_mem_cons.mpr ⟨ze_iald (by decide +kernel), ?_⟩
  refine List.forall_mem_cons.mpr ⟨ze_icmp_ge (off := 7) (by decide +kernel) (by decide), ?_⟩
  refine List.forall_mem_cons.mpr ⟨ze_iconst (n := 0) (by decide +kernel) (by decide), ?_⟩
  refine List.forall_mem_cons.mpr ⟨ze_goto (off := 4) (by decide +kernel) (by decide), ?_⟩
  refine List.forall_mem_cons.mpr ⟨ze_iconst (n := 1) (by decide +kernel) (by decide), ?_⟩
  refine List.forall_mem_cons.mpr ⟨ze_iconst (n := 0) (by decide +kernel) (by decide), ?_⟩
  refine List.forall_mem_cons.mpr ⟨ze_iconst (n := 0) (by decide +kernel) (by decide), ?_⟩
  refine List.forall_mem_cons.mpr ⟨ze_iconst (n := 0) (by decide +kernel) (by decide), ?_⟩
  refine List.forall_mem_cons.mpr ⟨ze_callVF (idx := 366) (by decide +kernel) ml_X12_366 mv_X12_tries rfl, ?_⟩
  refine List.forall_mem_cons.mpr ⟨ze_iret (by decide +kernel) rfl, ?_⟩
  refine List.forall_mem_cons.mpr ⟨ze_iload_n (k := 1) (by decide +kernel) rfl, ?_⟩
  refine List.forall_mem_cons.mpr ⟨ze_iconst (n := 3) (by decide +kernel) (by decide), ?_⟩
  refine List.forall_mem_cons.mpr ⟨ze_icmp_ne (off := 13) (by decide +kernel) (by decide), ?_⟩
  refine List.forall_mem_cons.mpr ⟨ze_aload_n (k := 0) (by decide +kernel) rfl, ?_⟩
  refine List.forall_mem_cons.mpr ⟨ze_bipush (n := 7) (by decide +kernel) (by decide), ?_⟩
  refine List.forall_mem_cons.mpr ⟨ze_iconst (n := 0) (by decide +kernel) (by decide), ?_⟩
  refine List.forall_mem_cons.mpr ⟨ze_iconst (n := 0) (by decide +kernel) (by decide), ?_⟩
  refine List.forall_mem_cons.mpr ⟨ze_iconst (n := 0) (by decide +kernel) (by decide), ?_⟩
  refine List.forall_mem_cons.mpr ⟨ze_callVF (idx := 366) (by decide +kernel) ml_X12_366 mv_X12_tries rfl, ?_⟩
  refine List.forall_mem_cons.mpr ⟨ze_iret (by decide +kernel) rfl, ?_⟩
  refine List.forall_mem_cons.mpr ⟨ze_iload_n (k := 1) (by decide +kernel) rfl, ?_⟩
  refine List.forall_mem_cons.mpr ⟨ze_iconst (n := 4) (by decide +kernel) (by decide), ?_⟩
  refine List.forall_mem_cons.mpr ⟨ze_icmp_ne (off := 18) (by decide +kernel) (by decide), ?_⟩
  refine List.forall_mem_cons.mpr ⟨ze_aload_n (k := 0) (by decide +kernel) rfl, ?_⟩
  refine List.forall_mem_cons.mpr ⟨ze_iconst (n := 2) (by decide +kernel) (by decide), ?_⟩
  refine List.forall_mem_cons.mpr ⟨ze_aload_n (k := 0) (by decide +kernel) rfl, ?_⟩
  refine List.forall_mem_cons.mpr ⟨ze_iconst (n := 3) (by decide +kernel) (by decide), ?_⟩
  refine List.forall_mem_cons.mpr ⟨ze_callVF (idx := 380) (by decide +kernel) ml_X12_380 mv_X12_draw rfl, ?_⟩
  refine List.forall_mem_cons.mpr ⟨ze_iadd (by decide +kernel), ?_⟩
  refine List.forall_mem_cons.mpr ⟨ze_iconst (n := 0) (by decide +kernel) (by decide), ?_⟩
  refine List.forall_mem_cons.mpr ⟨ze_iconst (n := 0) (by decide +kernel) (by decide), ?_⟩
  refine List.forall_mem_cons.mpr ⟨ze_iconst (n := 0) (by decide +kernel) (by decide), ?_⟩
  refine List.forall_mem_cons.mpr ⟨ze_callVF (idx := 366) (by decide +kernel) ml_X12_366 mv_X12_tries rfl, ?_⟩
  refine List.forall_mem_cons.mpr ⟨ze_iret (by decide +kernel) rfl, ?_⟩
  refine List.forall_mem_cons.mpr ⟨ze_iload_n (k := 1) (by decide +kernel) rfl, ?_⟩
  refine List.forall_mem_cons.mpr ⟨ze_iconst (n := 5) (by decide +kernel) (by decide), ?_⟩
  refine List.forall_mem_cons.mpr ⟨ze_icmp_ne (off := 27) (by decide +kernel) (by decide), ?_⟩
  refine List.forall_mem_cons.mpr ⟨ze_aload_n (k := 0) (by decide +kernel) rfl, ?_⟩
  refine List.forall_mem_cons.mpr ⟨ze_bipush (n := 12) (by decide +kernel) (by decide), ?_⟩
  refine List.forall_mem_cons.mpr ⟨ze_callVF (idx := 380) (by decide +kernel) ml_X12_380 mv_X12_draw rfl, ?_⟩
  refine List.forall_mem_cons.mpr ⟨ze_iconst (n := 1) (by decide +kernel) (by decide), ?_⟩
  refine List.forall_mem_cons.mpr ⟨ze_iadd (by decide +kernel), ?_⟩
  refine List.forall_mem_cons.mpr ⟨ze_istoreF_n (k := 2) (by decide +kernel) rfl (by decide), ?_⟩
  refine List.forall_mem_cons.mpr ⟨ze_aload_n (k := 0) (by decide +kernel) rfl, ?_⟩
  refine List.forall_mem_cons.mpr ⟨ze_iconst (n := 5) (by decide +kernel) (by decide), ?_⟩
  refine List.forall_mem_cons.mpr ⟨ze_iload_n (k := 2) (by decide +kernel) rfl, ?_⟩
  refine List.forall_mem_cons.mpr ⟨ze_aload_n (k := 0) (by decide +kernel) rfl, ?_⟩
  refine List.forall_mem_cons.mpr ⟨ze_sipush (n := 1000) (by decide +kernel) (by decide), ?_⟩
  refine List.forall_mem_cons.mpr ⟨ze_callVF (idx := 380) (by decide +kernel) ml_X12_380 mv_X12_draw rfl, ?_⟩
  refine List.forall_mem_cons.mpr ⟨ze_iconst (n := 0) (by decide +kernel) (by decide), ?_⟩
  refine List.forall_mem_cons.mpr ⟨ze_callVF (idx := 366) (by decide +kernel) ml_X12_366 mv_X12_tries rfl, ?_⟩
  refine List.forall_mem_cons.mpr ⟨ze_iret (by decide +kernel) rfl, ?_⟩
  refine List.forall_mem_cons.mpr ⟨ze_aload_n (k := 0) (by decide +kernel) rfl, ?_⟩
  refine List.forall_mem_cons.mpr ⟨ze_bipush (n := 12) (by decide +kernel) (by decide), ?_⟩
  refine List.forall_mem_cons.mpr ⟨ze_callVF (idx := 380) (by decide +kernel) ml_X12_380 mv_X12_draw rfl, ?_⟩
  refine List.forall_mem_cons.mpr ⟨ze_istoreF_n (k := 2) (by decide +kernel) rfl (by decide), ?_⟩
  refine List.forall_mem_cons.mpr ⟨ze_aload_n (k := 0) (by decide +kernel) rfl, ?_⟩
  refine List.forall_mem_cons.mpr ⟨ze_bipush (n := 12) (by decide +kernel) (by decide), ?_⟩
  refine List.forall_mem_cons.mpr ⟨ze_callVF (idx := 380) (by decide +kernel) ml_X12_380 mv_X12_draw rfl, ?_⟩
  refine List.forall_mem_cons.mpr ⟨ze_istoreF_n (k := 3) (by decide +kernel) rfl (by decide), ?_⟩
  refine List.forall_mem_cons.mpr ⟨ze_aload_n (k := 0) (by decide +kernel) rfl, ?_⟩
  refine List.forall_mem_cons.mpr ⟨ze_bipush (n := 6) (by decide +kernel) (by decide), ?_⟩
  refine List.forall_mem_cons.mpr ⟨ze_iload_n (k := 2) (by decide +kernel) rfl, ?_⟩
  refine List.forall_mem_cons.mpr ⟨ze_iload_n (k := 3) (by decide +kernel) rfl, ?_⟩
  refine List.forall_mem_cons.mpr ⟨ze_aload_n (k := 0) (by decide +kernel) rfl, ?_⟩
  refine List.forall_mem_cons.mpr ⟨ze_sipush (n := 200) (by decide +kernel) (by decide), ?_⟩
  refine List.forall_mem_cons.mpr ⟨ze_callVF (idx := 380) (by decide +kernel) ml_X12_380 mv_X12_draw rfl, ?_⟩
  refine List.forall_mem_cons.mpr ⟨ze_callVF (idx := 366) (by decide +kernel) ml_X12_366 mv_X12_tries rfl, ?_⟩
  refine List.forall_mem_cons.mpr ⟨ze_iret (by decide +kernel) rfl, ?_⟩
  exact fun _ h => absurd h List.not_mem_nil
theorem vX12_happens {l : Launch} {G : GT} {d : Nat} {av : List Value} {Q : Po} {σ : Mm} (cs : List (Nat × List Nat)) (k : Nat) (h : vc l G d mX12_happens TX12_happens Q cs k TX12_happens (lv_args 0 av) [] σ) (hlen : (lg_sl av).length ≤ mX12_happens.2.2.1 := by exact Nat.le_of_ble_eq_true rfl) : MW l G d mX12_happens av σ Q := mw_vc TX12_happens_ok mc_X12_happens rfl hlen cs k rfl h
theorem wX12_happens {l : Launch} {G : GT} {d : Nat} {Q : Po} {pc : Nat} {lv : Lv} {st : List Value} {σ : Mm} (cs : List (Nat × List Nat)) (k : Nat) (h : vc l G d mX12_happens TX12_happens Q cs k (drp TX12_happens pc) lv st σ) (hpc : hdp (drp TX12_happens pc) = pc := by rfl) : Wp l G d mX12_happens pc lv st σ Q := wp_vc TX12_happens_ok cs k hpc h
