def TX12_thrown : List In := [(0, 1, zt_aload 0), (1, 4, zt_getI 20 0), (4, 5, zt_iret)]
theorem TX12_thrown_ok : ∀ i ∈ TX12_thrown, Ent mX12_thrown i := by
  refine List.forall_mem_cons.mpr ⟨ze_aload_n (k := 0) (by decide +kernel) rfl, ?_⟩
  refine List.forall_mem_cons.mpr ⟨ze_getI (by decide +kernel) fl_X12_82 rfl, ?_⟩
  refine List.forall_mem_cons.mpr ⟨ze_iret (by decide +kernel) rfl, ?_⟩
  exact fun _ h => absurd h List.not_mem_nil
theorem vX12_thrown {l : Launch} {G : GT} {d : Nat} {av : List Value} {Q : Po} {σ : Mm} (cs : List (Nat × List Nat)) (k : Nat) (h : vc l G d mX12_thrown TX12_thrown Q cs k TX12_thrown (lv_args 0 av) [] σ) (hlen : (lg_sl av).length ≤ mX12_thrown.2.2.1 := by exact Nat.le_of_ble_eq_true rfl) : MW l G d mX12_thrown av σ Q := mw_vc TX12_thrown_ok mc_X12_thrown rfl hlen cs k rfl h
theorem wX12_thrown {l : Launch} {G : GT} {d : Nat} {Q : Po} {pc : Nat} {lv : Lv} {st : List Value} {σ : Mm} (cs : List (Nat × List Nat)) (k : Nat) (h : vc l G d mX12_thrown TX12_thrown Q cs k (drp TX12_thrown pc) lv st σ) (hpc : hdp (drp TX12_thrown pc) = pc := by rfl) : Wp l G d mX12_thrown pc lv st σ Q := wp_vc TX12_thrown_ok cs k hpc h
def TX12_isIn : List In := [(0, 1, zt_lload 0), (1, 2, zt_lload 2), (2, 3, zt_lcmp), (3, 6, zt_if_lt 17), (6, 7, zt_lload 0), (7, 9, zt_lload 4), (9, 10, zt_lcmp), (10, 13, zt_if_gt 17), (13, 14, zt_ic 1), (14, 17, zt_goto 18), (17, 18, zt_ic 0), (18, 19, zt_zret)]
theorem TX12_isIn_ok : ∀ i ∈ TX12_isIn, Ent mX12_isIn i := by
  refine List.forall_mem_cons.mpr ⟨ze_lload_n (k := 0) (by decide +kernel) rfl, ?_⟩
  refine List.forall_mem_cons.mpr ⟨ze_lload_n (k := 2) (by decide +kernel) rfl, ?_⟩
  refine List.forall_mem_cons.mpr ⟨ze_lcmp (by decide +kernel), ?_⟩
  refine List.forall_mem_cons.mpr ⟨ze_if_lt (off := 14) (by decide +kernel) (by decide), ?_⟩
  refine List.forall_mem_cons.mpr ⟨ze_lload_n (k := 0) (by decide +kernel) rfl, ?_⟩
  refine List.forall_mem_cons.mpr ⟨ze_lload (by decide +kernel), ?_⟩
  refine List.forall_mem_cons.mpr ⟨ze_lcmp (by decide +kernel), ?_⟩
  refine List.forall_mem_cons.mpr ⟨ze_if_gt (off := 7) (by decide +kernel) (by decide), ?_⟩
  refine List.forall_mem_cons.mpr ⟨ze_iconst (n := 1) (by decide +kernel) (by decide), ?_⟩
  refine List.forall_mem_cons.mpr ⟨ze_goto (off := 4) (by decide +kernel) (by decide), ?_⟩
  refine List.forall_mem_cons.mpr ⟨ze_iconst (n := 0) (by decide +kernel) (by decide), ?_⟩
  refine List.forall_mem_cons.mpr ⟨ze_zret (by decide +kernel) rfl, ?_⟩
  exact fun _ h => absurd h List.not_mem_nil
theorem vX12_isIn {l : Launch} {G : GT} {d : Nat} {av : List Value} {Q : Po} {σ : Mm} (cs : List (Nat × List Nat)) (k : Nat) (h : vc l G d mX12_isIn TX12_isIn Q cs k TX12_isIn (lv_args 0 av) [] σ) (hlen : (lg_sl av).length ≤ mX12_isIn.2.2.1 := by exact Nat.le_of_ble_eq_true rfl) : MW l G d mX12_isIn av σ Q := mw_vc TX12_isIn_ok mc_X12_isIn rfl hlen cs k rfl h
theorem wX12_isIn {l : Launch} {G : GT} {d : Nat} {Q : Po} {pc : Nat} {lv : Lv} {st : List Value} {σ : Mm} (cs : List (Nat × List Nat)) (k : Nat) (h : vc l G d mX12_isIn TX12_isIn Q cs k (drp TX12_isIn pc) lv st σ) (hpc : hdp (drp TX12_isIn pc) = pc := by rfl) : Wp l G d mX12_isIn pc lv st σ Q := wp_vc TX12_isIn_ok cs k hpc h
def TX12_bytesOf : List In := [(0, 1, zt_ic 0), (1, 2, zt_istoreF 1), (2, 3, zt_ic 0), (3, 4, zt_istoreF 2), (4, 5, zt_iload 2), (5, 6, zt_ic 4), (6, 9, zt_icmp_ge 36), (9, 10, zt_iload 1), (10, 11, zt_iload 0), (11, 13, zt_ic 8), (13, 14, zt_iload 2), (14, 15, zt_imul), (15, 16, zt_ishr), (16, 19, zt_ic 255), (19, 20, zt_iand), (20, 23, zt_if_ne 27), (23, 24, zt_ic 0), (24, 27, zt_goto 28), (27, 28, zt_ic 1), (28, 29, zt_iadd), (29, 30, zt_istoreF 1), (30, 33, zt_iincF 2 1), (33, 36, zt_goto 4), (36, 37, zt_iload 1), (37, 38, zt_iret)]
theorem TX12_bytesOf_ok : ∀ i ∈ TX12_bytesOf, Ent mX12_bytesOf i := by
  refine List.forall_mem_cons.mpr ⟨ze_iconst (n := 0) (by decide +kernel) (by decide), ?_⟩
  refine List.forall_mem_cons.mpr ⟨ze_istoreF_n (k := 1) (by decide +kernel) rfl (by decide), ?_⟩
  refine List.forall_mem_cons.mpr ⟨ze_iconst (n := 0) (by decide +kernel) (by decide), ?_⟩
  refine List.forall_mem_cons.mpr ⟨ze_istoreF_n (k := 2) (by decide +kernel) rfl (by decide), ?_⟩
  refine List.forall_mem_cons.mpr ⟨ze_iload_n (k := 2) (by decide +kernel) rfl, ?_⟩
  refine List.forall_mem_cons.mpr ⟨ze_iconst (n := 4) (by decide +kernel) (by decide), ?_⟩
  refine List.forall_mem_cons.mpr ⟨ze_icmp_ge (off := 30) (by decide +kernel) (by decide), ?_⟩
  refine List.forall_mem_cons.mpr ⟨ze_iload_n (k := 1) (by decide +kernel) rfl, ?_⟩
  refine List.forall_mem_cons.mpr ⟨ze_iload_n (k := 0) (by decide +kernel) rfl, ?_⟩
  refine List.forall_mem_cons.mpr ⟨ze_bipush (n := 8) (by decide +kernel) (by decide), ?_⟩
  refine List.forall_mem_cons.mpr ⟨ze_iload_n (k := 2) (by decide +kernel) rfl, ?_⟩
  refine List.forall_mem_cons.mpr ⟨ze_imul (by decide +kernel), ?_⟩
  refine List.forall_mem_cons.mpr ⟨ze_ishr (by decide +kernel), ?_⟩
  refine List.forall_mem_cons.mpr ⟨ze_sipush (n := 255) (by decide +kernel) (by decide), ?_⟩
  refine List.forall_mem_cons.mpr ⟨ze_iand (by decide +kernel), ?_⟩
  refine List.forall_mem_cons.mpr ⟨ze_if_ne (off := 7) (by decide +kernel) (by decide), ?_⟩
  refine List.forall_mem_cons.mpr ⟨ze_iconst (n := 0) (by decide +kernel) (by decide), ?_⟩
  refine List.forall_mem_cons.mpr ⟨ze_goto (off := 4) (by decide +kernel) (by decide), ?_⟩
  refine List.forall_mem_cons.mpr ⟨ze_iconst (n := 1) (by decide +kernel) (by decide), ?_⟩
  refine List.forall_mem_cons.mpr ⟨ze_iadd (by decide +kernel), ?_⟩
  refine List.forall_mem_cons.mpr ⟨ze_istoreF_n (k := 1) (by decide +kernel) rfl (by decide), ?_⟩
  refine List.forall_mem_cons.mpr ⟨ze_iincF (n := 1) (by decide +kernel) (by decide) (by decide), ?_⟩
  refine List.forall_mem_cons.mpr ⟨ze_goto (off := -29) (by decide +kernel) (by decide), ?_⟩
  refine List.forall_mem_cons.mpr ⟨ze_iload_n (k := 1) (by decide +kernel) rfl, ?_⟩
  refine List.forall_mem_cons.mpr ⟨ze_iret (by decide +kernel) rfl, ?_⟩
  exact fun _ h => absurd h List.not_mem_nil
theorem vX12_bytesOf {l : Launch} {G : GT} {d : Nat} {av : List Value} {Q : Po} {σ : Mm} (cs : List (Nat × List Nat)) (k : Nat) (h : vc l G d mX12_bytesOf TX12_bytesOf Q cs k TX12_bytesOf (lv_args 0 av) [] σ) (hlen : (lg_sl av).length ≤ mX12_bytesOf.2.2.1 := by exact Nat.le_of_ble_eq_true rfl) : MW l G d mX12_bytesOf av σ Q := mw_vc TX12_bytesOf_ok mc_X12_bytesOf rfl hlen cs k rfl h
theorem wX12_bytesOf {l : Launch} {G : GT} {d : Nat} {Q : Po} {pc : Nat} {lv : Lv} {st : List Value} {σ : Mm} (cs : List (Nat × List Nat)) (k : Nat) (h : vc l G d mX12_bytesOf TX12_bytesOf Q cs k (drp TX12_bytesOf pc) lv st σ) (hpc : hdp (drp TX12_bytesOf pc) = pc := by rfl) : Wp l G d mX12_bytesOf pc lv st σ Q := wp_vc TX12_bytesOf_ok cs k hpc h
def TX12_brings : List In := [(0, 2, zt_ic 24), (2, 3, zt_istoreF 2), (3, 4, zt_iload 2), (4, 7, zt_if_lt 49), (7, 8, zt_iload 1), (8, 9, zt_iload 2), (9, 10, zt_ishr), (10, 13, zt_ic 255), (13, 14, zt_iand), (14, 15, zt_istoreF 3), (15, 16, zt_iload 3), (16, 19, zt_if_ne 22), (19, 22, zt_goto 43), (22, 23, zt_aload 0), (23, 26, zt_getL 20 1), (26, 27, zt_aload 0), (27, 30, zt_getI 20 2), (30, 31, zt_iload 3), (31, 32, zt_i2b), (32, 33, zt_bastoreF), (33, 34, zt_aload 0), (34, 35, zt_dup), (35, 38, zt_getI 20 2), (38, 39, zt_ic 1), (39, 40, zt_iadd), (40, 43, zt_putI 20 2), (43, 46, zt_iincF 2 (-8)), (46, 49, zt_goto 3), (49, 50, zt_vret)]
theorem TX12_brings_ok : ∀ i ∈ TX12_brings, Ent mX12_brings i := by
  refine List.forall_mem_cons.mpr ⟨ze_bipush (n := 24) (by decide +kernel) (by decide), ?_⟩
  refine List.forall_mem_cons.mpr ⟨ze_istoreF_n (k := 2) (by decide +kernel) rfl (by decide), ?_⟩
  refine List.forall_mem_cons.mpr ⟨ze_iload_n (k := 2) (by decide +kernel) rfl, ?_⟩
  refine List.forall_mem_cons.mpr ⟨ze_if_lt (off := 45) (by decide +kernel) (by decide), ?_⟩
  refine List.forall_mem_cons.mpr ⟨ze_iload_n (k := 1) (by decide +kernel) rfl, ?_⟩
  refine List.forall_mem_cons.mpr ⟨ze_iload_n (k := 2) (by decide +kernel) rfl, ?_⟩
  refine List.forall_mem_cons.mpr ⟨ze_ishr (by decide +kernel), ?_⟩
  refine List.forall_mem_cons.mpr ⟨ze_sipush (n := 255) (by decide +kernel) (by decide), ?_⟩
  refine List.forall_mem_cons.mpr ⟨ze_iand (by decide +kernel), ?_⟩
  refine List.forall_mem_cons.mpr ⟨ze_istoreF_n (k := 3) (by decide +kernel) rfl (by decide), ?_⟩
  refine List.forall_mem_cons.mpr ⟨ze_iload_n (k := 3) (by decide +kernel) rfl, ?_⟩
  refine List.forall_mem_cons.mpr ⟨ze_if_ne (off := 6) (by decide +kernel) (by decide), ?_⟩
  refine List.forall_mem_cons.mpr ⟨ze_goto (off := 24) (by decide +kernel) (by decide), ?_⟩
  refine List.forall_mem_cons.mpr ⟨ze_aload_n (k := 0) (by decide +kernel) rfl, ?_⟩
  refine List.forall_mem_cons.mpr ⟨ze_getL (by decide +kernel) fl_X12_9 rfl (by decide), ?_⟩
  refine List.forall_mem_cons.mpr ⟨ze_aload_n (k := 0) (by decide +kernel) rfl, ?_⟩
  refine List.forall_mem_cons.mpr ⟨ze_getI (by decide +kernel) fl_X12_86 rfl, ?_⟩
  refine List.forall_mem_cons.mpr ⟨ze_iload_n (k := 3) (by decide +kernel) rfl, ?_⟩
  refine List.forall_mem_cons.mpr ⟨ze_i2b (by decide +kernel), ?_⟩
  refine List.forall_mem_cons.mpr ⟨ze_bastoreF (by decide +kernel), ?_⟩
  refine List.forall_mem_cons.mpr ⟨ze_aload_n (k := 0) (by decide +kernel) rfl, ?_⟩
  refine List.forall_mem_cons.mpr ⟨ze_dup (by decide +kernel), ?_⟩
  refine List.forall_mem_cons.mpr ⟨ze_getI (by decide +kernel) fl_X12_86 rfl, ?_⟩
  refine List.forall_mem_cons.mpr ⟨ze_iconst (n := 1) (by decide +kernel) (by decide), ?_⟩
  refine List.forall_mem_cons.mpr ⟨ze_iadd (by decide +kernel), ?_⟩
  refine List.forall_mem_cons.mpr ⟨ze_putI (by decide +kernel) fl_X12_86 ⟨_, _, _, rfl, rfl, by decide +kernel⟩ rfl, ?_⟩
  refine List.forall_mem_cons.mpr ⟨ze_iincF (n := -8) (by decide +kernel) (by decide) (by decide), ?_⟩
  refine List.forall_mem_cons.mpr ⟨ze_goto (off := -43) (by decide +kernel) (by decide), ?_⟩
  refine List.forall_mem_cons.mpr ⟨ze_vret (by decide +kernel) rfl, ?_⟩
  exact fun _ h => absurd h List.not_mem_nil
theorem vX12_brings {l : Launch} {G : GT} {d : Nat} {av : List Value} {Q : Po} {σ : Mm} (cs : List (Nat × List Nat)) (k : Nat) (h : vc l G d mX12_brings TX12_brings Q cs k TX12_brings (lv_args 0 av) [] σ) (hlen : (lg_sl av).length ≤ mX12_brings.2.2.1 := by exact Nat.le_of_ble_eq_true rfl) : MW l G d mX12_brings av σ Q := mw_vc TX12_brings_ok mc_X12_brings rfl hlen cs k rfl h
theorem wX12_brings {l : Launch} {G : GT} {d : Nat} {Q : Po} {pc : Nat} {lv : Lv} {st : List Value} {σ : Mm} (cs : List (Nat × List Nat)) (k : Nat) (h : vc l G d mX12_brings TX12_brings Q cs k (drp TX12_brings pc) lv st σ) (hpc : hdp (drp TX12_brings pc) = pc := by rfl) : Wp l G d mX12_brings pc lv st σ Q := wp_vc TX12_brings_ok cs k hpc h
def TX12_feed : List In := [(0, 1, zt_aload 0), (1, 2, zt_ic 0), (2, 5, zt_putI 20 0), (5, 6, zt_aload 0), (6, 9, zt_getI 20 2), (9, 10, zt_iload 1), (10, 13, zt_callSF mX12_bytesOf 1), (13, 14, zt_iadd), (14, 15, zt_iload 2), (15, 18, zt_callSF mX12_bytesOf 1), (18, 19, zt_iadd), (19, 20, zt_iload 3), (20, 23, zt_callSF mX12_bytesOf 1), (23, 24, zt_iadd), (24, 26, zt_iload 4), (26, 29, zt_callSF mX12_bytesOf 1), (29, 30, zt_iadd), (30, 32, zt_iload 5), (32, 35, zt_callSF mX12_bytesOf 1), (35, 36, zt_iadd), (36, 39, zt_ic 320), (39, 42, zt_icmp_le 44), (42, 43, zt_ic (-1)), (43, 44, zt_iret), (44, 45, zt_aload 0), (45, 46, zt_iload 1), (46, 49, zt_callVF mX12_brings 1 20), (49, 50, zt_aload 0), (50, 51, zt_iload 2), (51, 54, zt_callVF mX12_brings 1 20), (54, 55, zt_aload 0), (55, 56, zt_iload 3), (56, 59, zt_callVF mX12_brings 1 20), (59, 60, zt_aload 0), (60, 62, zt_iload 4), (62, 65, zt_callVF mX12_brings 1 20), (65, 66, zt_aload 0), (66, 68, zt_iload 5), (68, 71, zt_callVF mX12_brings 1 20), (71, 72, zt_aload 0), (72, 75, zt_getI 20 2), (75, 76, zt_iret)]
theorem TX12_feed_ok : ∀ i ∈ TX12_feed, Ent mX12_feed i := by
  refine List.forall_mem_cons.mpr ⟨ze_aload_n (k := 0) (by decide +kernel) rfl, ?_⟩
  refine List.forall_mem_cons.mpr ⟨ze_iconst (n := 0) (by decide +kernel) (by decide), ?_⟩
  refine List.forall_mem_cons.mpr ⟨ze_putI (by decide +kernel) fl_X12_82 ⟨_, _, _, rfl, rfl, by decide +kernel⟩ rfl, ?_⟩
  refine List.forall_mem_cons.mpr ⟨ze_aload_n (k := 0) (by decide +kernel) rfl, ?_⟩
  refine List.forall_mem_cons.mpr ⟨ze_getI (by decide +kernel) fl_X12_86 rfl, ?_⟩
  refine List.forall_mem_cons.mpr ⟨ze_iload_n (k := 1) (by decide +kernel) rfl, ?_⟩
  refine List.forall_mem_cons.mpr ⟨ze_callSF (idx := 89) (by decide +kernel) ml_X12_89 ms_X12_bytesOf, ?_⟩
  refine List.forall_mem_cons.mpr ⟨ze_iadd (by decide +kernel), ?_⟩
  refine List.forall_mem_cons.mpr ⟨ze_iload_n (k := 2) (by decide +kernel) rfl, ?_⟩
  refine List.forall_mem_cons.mpr ⟨ze_callSF (idx := 89) (by decide +kernel) ml_X12_89 ms_X12_bytesOf, ?_⟩
  refine List.forall_mem_cons.mpr ⟨ze_iadd (by decide +kernel), ?_⟩
  refine List.forall_mem_cons.mpr ⟨ze_iload_n (k := 3) (by decide +kernel) rfl, ?_⟩
  refine List.forall_mem_cons.mpr ⟨ze_callSF (idx := 89) (by decide +kernel) ml_X12_89 ms_X12_bytesOf, ?_⟩
  refine List.forall_mem_cons.mpr ⟨ze_iadd (by decide +kernel), ?_⟩
  refine List.forall_mem_cons.mpr ⟨ze_iload (by decide +kernel), ?_⟩
  refine List.forall_mem_cons.mpr ⟨ze_callSF (idx := 89) (by decide +kernel) ml_X12_89 ms_X12_bytesOf, ?_⟩
  refine List.forall_mem_cons.mpr ⟨ze_iadd (by decide +kernel), ?_⟩
  refine List.forall_mem_cons.mpr ⟨ze_iload (by decide +kernel), ?_⟩
  refine List.forall_mem_cons.mpr ⟨ze_callSF (idx := 89) (by decide +kernel) ml_X12_89 ms_X12_bytesOf, ?_⟩
  refine List.forall_mem_cons.mpr ⟨ze_iadd (by decide +kernel), ?_⟩
  refine List.forall_mem_cons.mpr ⟨ze_sipush (n := 320) (by decide +kernel) (by decide), ?_⟩
  refine List.forall_mem_cons.mpr ⟨ze_icmp_le (off := 5) (by decide +kernel) (by decide), ?_⟩
  refine List.forall_mem_cons.mpr ⟨ze_iconst (n := -1) (by decide +kernel) (by decide), ?_⟩
  refine List.forall_mem_cons.mpr ⟨ze_iret (by decide +kernel) rfl, ?_⟩
  refine List.forall_mem_cons.mpr ⟨ze_aload_n (k := 0) (by decide +kernel) rfl, ?_⟩
  refine List.forall_mem_cons.mpr ⟨ze_iload_n (k := 1) (by decide +kernel) rfl, ?_⟩
  refine List.forall_mem_cons.mpr ⟨ze_callVF (idx := 93) (by decide +kernel) ml_X12_93 mv_X12_brings rfl, ?_⟩
  refine List.forall_mem_cons.mpr ⟨ze_aload_n (k := 0) (by decide +kernel) rfl, ?_⟩
  refine List.forall_mem_cons.mpr ⟨ze_iload_n (k := 2) (by decide +kernel) rfl, ?_⟩
  refine List.forall_mem_cons.mpr ⟨ze_callVF (idx := 93) (by decide +kernel) ml_X12_93 mv_X12_brings rfl, ?_⟩
  refine List.forall_mem_cons.mpr ⟨ze_aload_n (k := 0) (by decide +kernel) rfl, ?_⟩
  refine List.forall_mem_cons.mpr ⟨ze_iload_n (k := 3) (by decide +kernel) rfl, ?_⟩
  refine List.forall_mem_cons.mpr ⟨ze_callVF (idx := 93) (by decide +kernel) ml_X12_93 mv_X12_brings rfl, ?_⟩
  refine List.forall_mem_cons.mpr ⟨ze_aload_n (k := 0) (by decide +kernel) rfl, ?_⟩
  refine List.forall_mem_cons.mpr ⟨ze_iload (by decide +kernel), ?_⟩
  refine List.forall_mem_cons.mpr ⟨ze_callVF (idx := 93) (by decide +kernel) ml_X12_93 mv_X12_brings rfl, ?_⟩
  refine List.forall_mem_cons.mpr ⟨ze_aload_n (k := 0) (by decide +kernel) rfl, ?_⟩
  refine List.forall_mem_cons.mpr ⟨ze_iload (by decide +kernel), ?_⟩
  refine List.forall_mem_cons.mpr ⟨ze_callVF (idx := 93) (by decide +kernel) ml_X12_93 mv_X12_brings rfl, ?_⟩
  refine List.forall_mem_cons.mpr ⟨ze_aload_n (k := 0) (by decide +kernel) rfl, ?_⟩
  refine List.forall_mem_cons.mpr ⟨ze_getI (by decide +kernel) fl_X12_86 rfl, ?_⟩
  refine List.forall_mem_cons.mpr ⟨ze_iret (by decide +kernel) rfl, ?_⟩
  exact fun _ h => absurd h List.not_mem_nil
theorem vX12_feed {l : Launch} {G : GT} {d : Nat} {av : List Value} {Q : Po} {σ : Mm} (cs : List (Nat × List Nat)) (k : Nat) (h : vc l G d mX12_feed TX12_feed Q cs k TX12_feed (lv_args 0 av) [] σ) (hlen : (lg_sl av).length ≤ mX12_feed.2.2.1 := by exact Nat.le_of_ble_eq_true rfl) : MW l G d mX12_feed av σ Q := mw_vc TX12_feed_ok mc_X12_feed rfl hlen cs k rfl h
theorem wX12_feed {l : Launch} {G : GT} {d : Nat} {Q : Po} {pc : Nat} {lv : Lv} {st : List Value} {σ : Mm} (cs : List (Nat × List Nat)) (k : Nat) (h : vc l G d mX12_feed TX12_feed Q cs k (drp TX12_feed pc) lv st σ) (hpc : hdp (drp TX12_feed pc) = pc := by rfl) : Wp l G d mX12_feed pc lv st σ Q := wp_vc TX12_feed_ok cs k hpc h
def TX12_end : List In := [(0, 1, zt_aload 0), (1, 2, zt_ic 0), (2, 5, zt_putI 20 0), (5, 6, zt_iload 1), (6, 9, zt_if_lt 17), (9, 10, zt_iload 1), (10, 11, zt_aload 0), (11, 14, zt_getI 20 2), (14, 17, zt_icmp_le 19), (17, 18, zt_ic 0), (18, 19, zt_zret), (19, 20, zt_aload 0), (20, 21, zt_iload 1), (21, 24, zt_putI 20 2), (24, 25, zt_ic 1), (25, 26, zt_zret)]
theorem TX12_end_ok : ∀ i ∈ TX12_end, Ent mX12_end i := by
  refine List.forall_mem_cons.mpr ⟨ze_aload_n (k := 0) (by decide +kernel) rfl, ?_⟩
  refine List.forall_mem_cons.mpr ⟨ze_iconst (n := 0) (by decide +kernel) (by decide), ?_⟩
  refine List.forall_mem_cons.mpr ⟨ze_putI (by decide +kernel) fl_X12_82 ⟨_, _, _, rfl, rfl, by decide +kernel⟩ rfl, ?_⟩
  refine List.forall_mem_cons.mpr ⟨ze_iload_n (k := 1) (by decide +kernel) rfl, ?_⟩
  refine List.forall_mem_cons.mpr ⟨ze_if_lt (off := 11) (by decide +kernel) (by decide), ?_⟩
  refine List.forall_mem_cons.mpr ⟨ze_iload_n (k := 1) (by decide +kernel) rfl, ?_⟩
  refine List.forall_mem_cons.mpr ⟨ze_aload_n (k := 0) (by decide +kernel) rfl, ?_⟩
  refine List.forall_mem_cons.mpr ⟨ze_getI (by decide +kernel) fl_X12_86 rfl, ?_⟩
  refine List.forall_mem_cons.mpr ⟨ze_icmp_le (off := 5) (by decide +kernel) (by decide), ?_⟩
  refine List.forall_mem_cons.mpr ⟨ze_iconst (n := 0) (by decide +kernel) (by decide), ?_⟩
  refine List.forall_mem_cons.mpr ⟨ze_zret (by decide +kernel) rfl, ?_⟩
  refine List.forall_mem_cons.mpr ⟨ze_aload_n (k := 0) (by decide +kernel) rfl, ?_⟩
  refine List.forall_mem_cons.mpr ⟨ze_iload_n (k := 1) (by decide +kernel) rfl, ?_⟩
  refine List.forall_mem_cons.mpr ⟨ze_putI (by decide +kernel) fl_X12_86 ⟨_, _, _, rfl, rfl, by decide +kernel⟩ rfl, ?_⟩
  refine List.forall_mem_cons.mpr ⟨ze_iconst (n := 1) (by decide +kernel) (by decide), ?_⟩
  refine List.forall_mem_cons.mpr ⟨ze_zret (by decide +kernel) rfl, ?_⟩
  exact fun _ h => absurd h List.not_mem_nil
theorem vX12_end {l : Launch} {G : GT} {d : Nat} {av : List Value} {Q : Po} {σ : Mm} (cs : List (Nat × List Nat)) (k : Nat) (h : vc l G d mX12_end TX12_end Q cs k TX12_end (lv_args 0 av) [] σ) (hlen : (lg_sl av).length ≤ mX12_end.2.2.1 := by exact Nat.le_of_ble_eq_true rfl) : MW l G d mX12_end av σ Q := mw_vc TX12_end_ok mc_X12_end rfl hlen cs k rfl h
theorem wX12_end {l : Launch} {G : GT} {d : Nat} {Q : Po} {pc : Nat} {lv : Lv} {st : List Value} {σ : Mm} (cs : List (Nat × List Nat)) (k : Nat) (h : vc l G d mX12_end TX12_end Q cs k (drp TX12_end pc) lv st σ) (hpc : hdp (drp TX12_end pc) = pc := by rfl) : Wp l G d mX12_end pc lv st σ Q := wp_vc TX12_end_ok cs k hpc h
def TX12_here : List In := [(0, 1, zt_aload 0), (1, 4, zt_getI 20 3), (4, 5, zt_aload 0), (5, 8, zt_getI 20 2), (8, 11, zt_icmp_ge 27), (11, 12, zt_aload 0), (12, 15, zt_getL 20 1), (15, 16, zt_aload 0), (16, 19, zt_getI 20 3), (19, 20, zt_bald), (20, 23, zt_ic 255), (23, 24, zt_iand), (24, 27, zt_goto 28), (27, 28, zt_ic (-1)), (28, 29, zt_iret)]
theorem TX12_here_ok : ∀ i ∈ TX12_here, Ent mX12_here i := by
  refine List.forall_mem_cons.mpr ⟨ze_aload_n (k := 0) (by decide +kernel) rfl, ?_⟩
  refine List.forall_mem_cons.mpr ⟨ze_getI (by decide +kernel) fl_X12_97 rfl, ?_⟩
  refine List.forall_mem_cons.mpr ⟨ze_aload_n (k := 0) (by decide +kernel) rfl, ?_⟩
  refine List.forall_mem_cons.mpr ⟨ze_getI (by decide +kernel) fl_X12_86 rfl, ?_⟩
  refine List.forall_mem_cons.mpr ⟨ze_icmp_ge (off := 19) (by decide +kernel) (by decide), ?_⟩
  refine List.forall_mem_cons.mpr ⟨ze_aload_n (k := 0) (by decide +kernel) rfl, ?_⟩
  refine List.forall_mem_cons.mpr ⟨ze_getL (by decide +kernel) fl_X12_9 rfl (by decide), ?_⟩
  refine List.forall_mem_cons.mpr ⟨ze_aload_n (k := 0) (by decide +kernel) rfl, ?_⟩
  refine List.forall_mem_cons.mpr ⟨ze_getI (by decide +kernel) fl_X12_97 rfl, ?_⟩
  refine List.forall_mem_cons.mpr ⟨ze_bald (by decide +kernel), ?_⟩
  refine List.forall_mem_cons.mpr ⟨ze_sipush (n := 255) (by decide +kernel) (by decide), ?_⟩
  refine List.forall_mem_cons.mpr ⟨ze_iand (by decide +kernel), ?_⟩
  refine List.forall_mem_cons.mpr ⟨ze_goto (off := 4) (by decide +kernel) (by decide), ?_⟩
  refine List.forall_mem_cons.mpr ⟨ze_iconst (n := -1) (by decide +kernel) (by decide), ?_⟩
  refine List.forall_mem_cons.mpr ⟨ze_iret (by decide +kernel) rfl, ?_⟩
  exact fun _ h => absurd h List.not_mem_nil
theorem vX12_here {l : Launch} {G : GT} {d : Nat} {av : List Value} {Q : Po} {σ : Mm} (cs : List (Nat × List Nat)) (k : Nat) (h : vc l G d mX12_here TX12_here Q cs k TX12_here (lv_args 0 av) [] σ) (hlen : (lg_sl av).length ≤ mX12_here.2.2.1 := by exact Nat.le_of_ble_eq_true rfl) : MW l G d mX12_here av σ Q := mw_vc TX12_here_ok mc_X12_here rfl hlen cs k rfl h
theorem wX12_here {l : Launch} {G : GT} {d : Nat} {Q : Po} {pc : Nat} {lv : Lv} {st : List Value} {σ : Mm} (cs : List (Nat × List Nat)) (k : Nat) (h : vc l G d mX12_here TX12_here Q cs k (drp TX12_here pc) lv st σ) (hpc : hdp (drp TX12_here pc) = pc := by rfl) : Wp l G d mX12_here pc lv st σ Q := wp_vc TX12_here_ok cs k hpc h
def TX12_look : List In := [(0, 1, zt_aload 0), (1, 4, zt_callVF mX12_here 0 20), (4, 6, zt_ic 32), (6, 9, zt_icmp_ne 22), (9, 10, zt_aload 0), (10, 11, zt_dup), (11, 14, zt_getI 20 3), (14, 15, zt_ic 1), (15, 16, zt_iadd), (16, 19, zt_putI 20 3), (19, 22, zt_goto 0), (22, 23, zt_aload 0), (23, 26, zt_callVF mX12_here 0 20), (26, 27, zt_iret)]
theorem TX12_look_ok : ∀ i ∈ TX12_look, Ent mX12_look i := by
  refine List.forall_mem_cons.mpr ⟨ze_aload_n (k := 0) (by decide +kernel) rfl, ?_⟩
  refine List.forall_mem_cons.mpr ⟨ze_callVF (idx := 100) (by decide +kernel) ml_X12_100 mv_X12_here rfl, ?_⟩
  refine List.forall_mem_cons.mpr ⟨ze_bipush (n := 32) (by decide +kernel) (by decide), ?_⟩
  refine List.forall_mem_cons.mpr ⟨ze_icmp_ne (off := 16) (by decide +kernel) (by decide), ?_⟩
  refine List.forall_mem_cons.mpr ⟨ze_aload_n (k := 0) (by decide +kernel) rfl, ?_⟩
  refine List.forall_mem_cons.mpr ⟨ze_dup (by decide +kernel), ?_⟩
  refine List.forall_mem_cons.mpr ⟨ze_getI (by decide +kernel) fl_X12_97 rfl, ?_⟩
  refine List.forall_mem_cons.mpr ⟨ze_iconst (n := 1) (by decide +kernel) (by decide), ?_⟩
  refine List.forall_mem_cons.mpr ⟨ze_iadd (by decide +kernel), ?_⟩
  refine List.forall_mem_cons.mpr ⟨ze_putI (by decide +kernel) fl_X12_97 ⟨_, _, _, rfl, rfl, by decide +kernel⟩ rfl, ?_⟩
  refine List.forall_mem_cons.mpr ⟨ze_goto (off := -19) (by decide +kernel) (by decide), ?_⟩
  refine List.forall_mem_cons.mpr ⟨ze_aload_n (k := 0) (by decide +kernel) rfl, ?_⟩
  refine List.forall_mem_cons.mpr ⟨ze_callVF (idx := 100) (by decide +kernel) ml_X12_100 mv_X12_here rfl, ?_⟩
  refine List.forall_mem_cons.mpr ⟨ze_iret (by decide +kernel) rfl, ?_⟩
  exact fun _ h => absurd h List.not_mem_nil
theorem vX12_look {l : Launch} {G : GT} {d : Nat} {av : List Value} {Q : Po} {σ : Mm} (cs : List (Nat × List Nat)) (k : Nat) (h : vc l G d mX12_look TX12_look Q cs k TX12_look (lv_args 0 av) [] σ) (hlen : (lg_sl av).length ≤ mX12_look.2.2.1 := by exact Nat.le_of_ble_eq_true rfl) : MW l G d mX12_look av σ Q := mw_vc TX12_look_ok mc_X12_look rfl hlen cs k rfl h
theorem wX12_look {l : Launch} {G : GT} {d : Nat} {Q : Po} {pc : Nat} {lv : Lv} {st : List Value} {σ : Mm} (cs : List (Nat × List Nat)) (k : Nat) (h : vc l G d mX12_look TX12_look Q cs k (drp TX12_look pc) lv st σ) (hpc : hdp (drp TX12_look pc) = pc := by rfl) : Wp l G d mX12_look pc lv st σ Q := wp_vc TX12_look_ok cs k hpc h
def TX12_fails : List In := [(0, 1, zt_aload 0), (1, 4, zt_getI 20 4), (4, 5, zt_ic (-1)), (5, 8, zt_icmp_ne 16), (8, 9, zt_aload 0), (9, 10, zt_aload 0), (10, 13, zt_getI 20 3), (13, 16, zt_putI 20 4), (16, 17, zt_vret)]
theorem TX12_fails_ok : ∀ i ∈ TX12_fails, Ent mX12_fails i := by
  refine List.forall_mem_cons.mpr ⟨ze_aload_n (k := 0) (by decide +kernel) rfl, ?_⟩
  refine List.forall_mem_cons.mpr ⟨ze_getI (by decide +kernel) fl_X12_104 rfl, ?_⟩
  refine List.forall_mem_cons.mpr ⟨ze_iconst (n := -1) (by decide +kernel) (by decide), ?_⟩
  refine List.forall_mem_cons.mpr ⟨ze_icmp_ne (off := 11) (by decide +kernel) (by decide), ?_⟩
  refine List.forall_mem_cons.mpr ⟨ze_aload_n (k := 0) (by decide +kernel) rfl, ?_⟩
  refine List.forall_mem_cons.mpr ⟨ze_aload_n (k := 0) (by decide +kernel) rfl, ?_⟩
  refine List.forall_mem_cons.mpr ⟨ze_getI (by decide +kernel) fl_X12_97 rfl, ?_⟩
  refine List.forall_mem_cons.mpr ⟨ze_putI (by decide +kernel) fl_X12_104 ⟨_, _, _, rfl, rfl, by decide +kernel⟩ rfl, ?_⟩
  refine List.forall_mem_cons.mpr ⟨ze_vret (by decide +kernel) rfl, ?_⟩
  exact fun _ h => absurd h List.not_mem_nil
theorem vX12_fails {l : Launch} {G : GT} {d : Nat} {av : List Value} {Q : Po} {σ : Mm} (cs : List (Nat × List Nat)) (k : Nat) (h : vc l G d mX12_fails TX12_fails Q cs k TX12_fails (lv_args 0 av) [] σ) (hlen : (lg_sl av).length ≤ mX12_fails.2.2.1 := by exact Nat.le_of_ble_eq_true rfl) : MW l G d mX12_fails av σ Q := mw_vc TX12_fails_ok mc_X12_fails rfl hlen cs k rfl h
theorem wX12_fails {l : Launch} {G : GT} {d : Nat} {Q : Po} {pc : Nat} {lv : Lv} {st : List Value} {σ : Mm} (cs : List (Nat × List Nat)) (k : Nat) (h : vc l G d mX12_fails TX12_fails Q cs k (drp TX12_fails pc) lv st σ) (hpc : hdp (drp TX12_fails pc) = pc := by rfl) : Wp l G d mX12_fails pc lv st σ Q := wp_vc TX12_fails_ok cs k hpc h
def TX12_isDigit : List In := [(0, 1, zt_aload 0), (1, 4, zt_callVF mX12_here 0 20), (4, 6, zt_ic 48), (6, 9, zt_icmp_lt 22), (9, 10, zt_aload 0), (10, 13, zt_callVF mX12_here 0 20), (13, 15, zt_ic 57), (15, 18, zt_icmp_gt 22), (18, 19, zt_ic 1), (19, 22, zt_goto 23), (22, 23, zt_ic 0), (23, 24, zt_zret)]
theorem TX12_isDigit_ok : ∀ i ∈ TX12_isDigit, Ent mX12_isDigit i := by
  refine List.forall_mem_cons.mpr ⟨ze_aload_n (k := 0) (by decide +kernel) rfl, ?_⟩
  refine List.forall_mem_cons.mpr ⟨ze_callVF (idx := 100) (by decide +kernel) ml_X12_100 mv_X12_here rfl, ?_⟩
  refine List.forall_mem_cons.mpr ⟨ze_bipush (n := 48) (by decide +kernel) (by decide), ?_⟩
  refine List.forall_mem_cons.mpr ⟨ze_icmp_lt (off := 16) (by decide +kernel) (by decide), ?_⟩
  refine List.forall_mem_cons.mpr ⟨ze_aload_n (k := 0) (by decide +kernel) rfl, ?_⟩
  refine List.forall_mem_cons.mpr ⟨ze_callVF (idx := 100) (by decide +kernel) ml_X12_100 mv_X12_here rfl, ?_⟩
  refine List.forall_mem_cons.mpr ⟨ze_bipush (n := 57) (by decide +kernel) (by decide), ?_⟩
  refine List.forall_mem_cons.mpr ⟨ze_icmp_gt (off := 7) (by decide +kernel) (by decide), ?_⟩
  refine List.forall_mem_cons.mpr ⟨ze_iconst (n := 1) (by decide +kernel) (by decide), ?_⟩
  refine List.forall_mem_cons.mpr ⟨ze_goto (off := 4) (by decide +kernel) (by decide), ?_⟩
  refine List.forall_mem_cons.mpr ⟨ze_iconst (n := 0) (by decide +kernel) (by decide), ?_⟩
  refine List.forall_mem_cons.mpr ⟨ze_zret (by decide +kernel) rfl, ?_⟩
  exact fun _ h => absurd h List.not_mem_nil
theorem vX12_isDigit {l : Launch} {G : GT} {d : Nat} {av : List Value} {Q : Po} {σ : Mm} (cs : List (Nat × List Nat)) (k : Nat) (h : vc l G d mX12_isDigit TX12_isDigit Q cs k TX12_isDigit (lv_args 0 av) [] σ) (hlen : (lg_sl av).length ≤ mX12_isDigit.2.2.1 := by exact Nat.le_of_ble_eq_true rfl) : MW l G d mX12_isDigit av σ Q := mw_vc TX12_isDigit_ok mc_X12_isDigit rfl hlen cs k rfl h
theorem wX12_isDigit {l : Launch} {G : GT} {d : Nat} {Q : Po} {pc : Nat} {lv : Lv} {st : List Value} {σ : Mm} (cs : List (Nat × List Nat)) (k : Nat) (h : vc l G d mX12_isDigit TX12_isDigit Q cs k (drp TX12_isDigit pc) lv st σ) (hpc : hdp (drp TX12_isDigit pc) = pc := by rfl) : Wp l G d mX12_isDigit pc lv st σ Q := wp_vc TX12_isDigit_ok cs k hpc h
def TX12_digit : List In := [(0, 1, zt_aload 0), (1, 4, zt_callVF mX12_look 0 20), (4, 5, zt_istoreF 1), (5, 6, zt_aload 0), (6, 9, zt_getI 20 4), (9, 10, zt_ic (-1)), (10, 13, zt_icmp_ne 20), (13, 14, zt_aload 0), (14, 17, zt_callVF mX12_isDigit 0 20), (17, 20, zt_if_ne 26), (20, 21, zt_aload 0), (21, 24, zt_callVF mX12_fails 0 20), (24, 25, zt_ic 0), (25, 26, zt_iret), (26, 27, zt_aload 0), (27, 28, zt_dup), (28, 31, zt_getI 20 3), (31, 32, zt_ic 1), (32, 33, zt_iadd), (33, 36, zt_putI 20 3), (36, 37, zt_iload 1), (37, 39, zt_ic 48), (39, 40, zt_isub), (40, 41, zt_iret)]
theorem TX12_digit_ok : ∀ i ∈ TX12_digit, Ent mX12_digit i := by
  refine List.forall_mem_cons.mpr ⟨ze_aload_n (k := 0) (by decide +kernel) rfl, ?_⟩
  refine List.forall_mem_cons.mpr ⟨ze_callVF (idx := 107) (by decide +kernel) ml_X12_107 mv_X12_look rfl, ?_⟩
  refine List.forall_mem_cons.mpr ⟨ze_istoreF_n (k := 1) (by decide +kernel) rfl (by decide), ?_⟩
  refine List.forall_mem_cons.mpr ⟨ze_aload_n (k := 0) (by decide +kernel) rfl, ?_⟩
  refine List.forall_mem_cons.mpr ⟨ze_getI (by decide +kernel) fl_X12_104 rfl, ?_⟩
  refine List.forall_mem_cons.mpr ⟨ze_iconst (n := -1) (by decide +kernel) (by decide), ?_⟩
  refine List.forall_mem_cons.mpr ⟨ze_icmp_ne (off := 10) (by decide +kernel) (by decide), ?_⟩
  refine List.forall_mem_cons.mpr ⟨ze_aload_n (k := 0) (by decide +kernel) rfl, ?_⟩
  refine List.forall_mem_cons.mpr ⟨ze_callVF (idx := 110) (by decide +kernel) ml_X12_110 mv_X12_isDigit rfl, ?_⟩
  refine List.forall_mem_cons.mpr ⟨ze_if_ne (off := 9) (by decide +kernel) (by decide), ?_⟩
  refine List.forall_mem_cons.mpr ⟨ze_aload_n (k := 0) (by decide +kernel) rfl, ?_⟩
  refine List.forall_mem_cons.mpr ⟨ze_callVF (idx := 114) (by decide +kernel) ml_X12_114 mv_X12_fails rfl, ?_⟩
  refine List.forall_mem_cons.mpr ⟨ze_iconst (n := 0) (by decide +kernel) (by decide), ?_⟩
  refine List.forall_mem_cons.mpr ⟨ze_iret (by decide +kernel) rfl, ?_⟩
  refine List.forall_mem_cons.mpr ⟨ze_aload_n (k := 0) (by decide +kernel) rfl, ?_⟩
  refine List.forall_mem_cons.mpr ⟨ze_dup (by decide +kernel), ?_⟩
  refine List.forall_mem_cons.mpr ⟨ze_getI (by decide +kernel) fl_X12_97 rfl, ?_⟩
  refine List.forall_mem_cons.mpr ⟨ze_iconst (n := 1) (by decide +kernel) (by decide), ?_⟩
  refine List.forall_mem_cons.mpr ⟨ze_iadd (by decide +kernel), ?_⟩
  refine List.forall_mem_cons.mpr ⟨ze_putI (by decide +kernel) fl_X12_97 ⟨_, _, _, rfl, rfl, by decide +kernel⟩ rfl, ?_⟩
  refine List.forall_mem_cons.mpr ⟨ze_iload_n (k := 1) (by decide +kernel) rfl, ?_⟩
  refine List.forall_mem_cons.mpr ⟨ze_bipush (n := 48) (by decide +kernel) (by decide), ?_⟩
  refine List.forall_mem_cons.mpr ⟨ze_isub (by decide +kernel), ?_⟩
  refine List.forall_mem_cons.mpr ⟨ze_iret (by decide +kernel) rfl, ?_⟩
  exact fun _ h => absurd h List.not_mem_nil
theorem vX12_digit {l : Launch} {G : GT} {d : Nat} {av : List Value} {Q : Po} {σ : Mm} (cs : List (Nat × List Nat)) (k : Nat) (h : vc l G d mX12_digit TX12_digit Q cs k TX12_digit (lv_args 0 av) [] σ) (hlen : (lg_sl av).length ≤ mX12_digit.2.2.1 := by exact Nat.le_of_ble_eq_true rfl) : MW l G d mX12_digit av σ Q := mw_vc TX12_digit_ok mc_X12_digit rfl hlen cs k rfl h
theorem wX12_digit {l : Launch} {G : GT} {d : Nat} {Q : Po} {pc : Nat} {lv : Lv} {st : List Value} {σ : Mm} (cs : List (Nat × List Nat)) (k : Nat) (h : vc l G d mX12_digit TX12_digit Q cs k (drp TX12_digit pc) lv st σ) (hpc : hdp (drp TX12_digit pc) = pc := by rfl) : Wp l G d mX12_digit pc lv st σ Q := wp_vc TX12_digit_ok cs k hpc h
def TX12_number : List In := [(0, 1, zt_aload 0), (1, 4, zt_callVF mX12_digit 0 20), (4, 5, zt_istoreF 1), (5, 6, zt_ic 1), (6, 7, zt_istoreF 2), (7, 8, zt_iload 2), (8, 9, zt_ic 4), (9, 12, zt_icmp_ge 43), (12, 13, zt_aload 0), (13, 16, zt_getI 20 4), (16, 17, zt_ic (-1)), (17, 20, zt_icmp_ne 43), (20, 21, zt_aload 0), (21, 24, zt_callVF mX12_isDigit 0 20), (24, 27, zt_if_eq 43), (27, 29, zt_ic 10), (29, 30, zt_iload 1), (30, 31, zt_imul), (31, 32, zt_aload 0), (32, 35, zt_callVF mX12_digit 0 20), (35, 36, zt_iadd), (36, 37, zt_istoreF 1), (37, 40, zt_iincF 2 1), (40, 43, zt_goto 7), (43, 44, zt_aload 0), (44, 47, zt_getI 20 4), (47, 48, zt_ic (-1)), (48, 51, zt_icmp_ne 62), (51, 52, zt_aload 0), (52, 55, zt_callVF mX12_isDigit 0 20), (55, 58, zt_if_eq 62), (58, 59, zt_aload 0), (59, 62, zt_callVF mX12_fails 0 20), (62, 63, zt_iload 1), (63, 64, zt_iret)]
theorem TX12_number_ok : ∀ i ∈ TX12_number, Ent mX12_number i := by
  refine List.forall_mem_cons.mpr ⟨ze_aload_n (k := 0) (by decide +kernel) rfl, ?_⟩
  refine List.forall_mem_cons.mpr ⟨ze_callVF (idx := 117) (by decide +kernel) ml_X12_117 mv_X12_digit rfl, ?_⟩
  refine List.forall_mem_cons.mpr ⟨ze_istoreF_n (k := 1) (by decide +kernel) rfl (by decide), ?_⟩
  refine List.forall_mem_cons.mpr ⟨ze_iconst (n := 1) (by decide +kernel) (by decide), ?_⟩
  refine List.forall_mem_cons.mpr ⟨ze_istoreF_n (k := 2) (by decide +kernel) rfl (by decide), ?_⟩
  refine List.forall_mem_cons.mpr ⟨ze_iload_n (k := 2) (by decide +kernel) rfl, ?_⟩
  refine List.forall_mem_cons.mpr ⟨ze_iconst (n := 4) (by decide +kernel) (by decide), ?_⟩
  refine List.forall_mem_cons.mpr ⟨ze_icmp_ge (off := 34) (by decide +kernel) (by decide), ?_⟩
  refine List.forall_mem_cons.mpr ⟨ze_aload_n (k := 0) (by decide +kernel) rfl, ?_⟩
  refine List.forall_mem_cons.mpr ⟨ze_getI (by decide +kernel) fl_X12_104 rfl, ?_⟩
  refine List.forall_mem_cons.mpr ⟨ze_iconst (n := -1) (by decide +kernel) (by decide), ?_⟩
  refine List.forall_mem_cons.mpr ⟨ze_icmp_ne (off := 26) (by decide +kernel) (by decide), ?_⟩
  refine List.forall_mem_cons.mpr ⟨ze_aload_n (k := 0) (by decide +kernel) rfl, ?_⟩
  refine List.forall_mem_cons.mpr ⟨ze_callVF (idx := 110) (by decide +kernel) ml_X12_110 mv_X12_isDigit rfl, ?_⟩
  refine List.forall_mem_cons.mpr ⟨ze_if_eq (off := 19) (by decide +kernel) (by decide), ?_⟩
  refine List.forall_mem_cons.mpr ⟨ze_bipush (n := 10) (by decide +kernel) (by decide), ?_⟩
  refine List.forall_mem_cons.mpr ⟨ze_iload_n (k := 1) (by decide +kernel) rfl, ?_⟩
  refine List.forall_mem_cons.mpr ⟨ze_imul (by decide +kernel), ?_⟩
  refine List.forall_mem_cons.mpr ⟨ze_aload_n (k := 0) (by decide +kernel) rfl, ?_⟩
  refine List.forall_mem_cons.mpr ⟨ze_callVF (idx := 117) (by decide +kernel) ml_X12_117 mv_X12_digit rfl, ?_⟩
  refine List.forall_mem_cons.mpr ⟨ze_iadd (by decide +kernel), ?_⟩
  refine List.forall_mem_cons.mpr ⟨ze_istoreF_n (k := 1) (by decide +kernel) rfl (by decide), ?_⟩
  refine List.forall_mem_cons.mpr ⟨ze_iincF (n := 1) (by decide +kernel) (by decide) (by decide), ?_⟩
  refine List.forall_mem_cons.mpr ⟨ze_goto (off := -33) (by decide +kernel) (by decide), ?_⟩
  refine List.forall_mem_cons.mpr ⟨ze_aload_n (k := 0) (by decide +kernel) rfl, ?_⟩
  refine List.forall_mem_cons.mpr ⟨ze_getI (by decide +kernel) fl_X12_104 rfl, ?_⟩
  refine List.forall_mem_cons.mpr ⟨ze_iconst (n := -1) (by decide +kernel) (by decide), ?_⟩
  refine List.forall_mem_cons.mpr ⟨ze_icmp_ne (off := 14) (by decide +kernel) (by decide), ?_⟩
  refine List.forall_mem_cons.mpr ⟨ze_aload_n (k := 0) (by decide +kernel) rfl, ?_⟩
  refine List.forall_mem_cons.mpr ⟨ze_callVF (idx := 110) (by decide +kernel) ml_X12_110 mv_X12_isDigit rfl, ?_⟩
  refine List.forall_mem_cons.mpr ⟨ze_if_eq (off := 7) (by decide +kernel) (by decide), ?_⟩
  refine List.forall_mem_cons.mpr ⟨ze_aload_n (k := 0) (by decide +kernel) rfl, ?_⟩
  refine List.forall_mem_cons.mpr ⟨ze_callVF (idx := 114) (by decide +kernel) ml_X12_114 mv_X12_fails rfl, ?_⟩
  refine List.forall_mem_cons.mpr ⟨ze_iload_n (k := 1) (by decide +kernel) rfl, ?_⟩
  refine List.forall_mem_cons.mpr ⟨ze_iret (by decide +kernel) rfl, ?_⟩
  exact fun _ h => absurd h List.not_mem_nil
theorem vX12_number {l : Launch} {G : GT} {d : Nat} {av : List Value} {Q : Po} {σ : Mm} (cs : List (Nat × List Nat)) (k : Nat) (h : vc l G d mX12_number TX12_number Q cs k TX12_number (lv_args 0 av) [] σ) (hlen : (lg_sl av).length ≤ mX12_number.2.2.1 := by exact Nat.le_of_ble_eq_true rfl) : MW l G d mX12_number av σ Q := mw_vc TX12_number_ok mc_X12_number rfl hlen cs k rfl h
theorem wX12_number {l : Launch} {G : GT} {d : Nat} {Q : Po} {pc : Nat} {lv : Lv} {st : List Value} {σ : Mm} (cs : List (Nat × List Nat)) (k : Nat) (h : vc l G d mX12_number TX12_number Q cs k (drp TX12_number pc) lv st σ) (hpc : hdp (drp TX12_number pc) = pc := by rfl) : Wp l G d mX12_number pc lv st σ Q := wp_vc TX12_number_ok cs k hpc h
def TX12_spotOf : List In := [(0, 1, zt_ic 0), (1, 2, zt_istoreF 2), (2, 3, zt_iload 2), (3, 4, zt_aload 0), (4, 7, zt_callT mJ0_length_8abf5 0), (7, 10, zt_icmp_ge 27), (10, 11, zt_aload 0), (11, 12, zt_iload 2), (12, 15, zt_callT mJ0_charAt_5068e 1), (15, 16, zt_iload 1), (16, 19, zt_icmp_ne 21), (19, 20, zt_iload 2), (20, 21, zt_iret), (21, 24, zt_iincF 2 1), (24, 27, zt_goto 2), (27, 28, zt_ic (-1)), (28, 29, zt_iret)]
theorem TX12_spotOf_ok : ∀ i ∈ TX12_spotOf, Ent mX12_spotOf i := by
  refine List.forall_mem_cons.mpr ⟨ze_iconst (n := 0) (by decide +kernel) (by decide), ?_⟩
  refine List.forall_mem_cons.mpr ⟨ze_istoreF_n (k := 2) (by decide +kernel) rfl (by decide), ?_⟩
  refine List.forall_mem_cons.mpr ⟨ze_iload_n (k := 2) (by decide +kernel) rfl, ?_⟩
  refine List.forall_mem_cons.mpr ⟨ze_aload_n (k := 0) (by decide +kernel) rfl, ?_⟩
  refine List.forall_mem_cons.mpr ⟨ze_callT (idx := 120) (by decide +kernel) ml_X12_120 mt_J0_length_8abf5, ?_⟩
  refine List.forall_mem_cons.mpr ⟨ze_icmp_ge (off := 20) (by decide +kernel) (by decide), ?_⟩
  refine List.forall_mem_cons.mpr ⟨ze_aload_n (k := 0) (by decide +kernel) rfl, ?_⟩
  refine List.forall_mem_cons.mpr ⟨ze_iload_n (k := 2) (by decide +kernel) rfl, ?_⟩
  refine List.forall_mem_cons.mpr ⟨ze_callT (idx := 124) (by decide +kernel) ml_X12_124 mt_J0_charAt_5068e, ?_⟩
  refine List.forall_mem_cons.mpr ⟨ze_iload_n (k := 1) (by decide +kernel) rfl, ?_⟩
  refine List.forall_mem_cons.mpr ⟨ze_icmp_ne (off := 5) (by decide +kernel) (by decide), ?_⟩
  refine List.forall_mem_cons.mpr ⟨ze_iload_n (k := 2) (by decide +kernel) rfl, ?_⟩
  refine List.forall_mem_cons.mpr ⟨ze_iret (by decide +kernel) rfl, ?_⟩
  refine List.forall_mem_cons.mpr ⟨ze_iincF (n := 1) (by decide +kernel) (by decide) (by decide), ?_⟩
  refine List.forall_mem_cons.mpr ⟨ze_goto (off := -22) (by decide +kernel) (by decide), ?_⟩
  refine List.forall_mem_cons.mpr ⟨ze_iconst (n := -1) (by decide +kernel) (by decide), ?_⟩
  refine List.forall_mem_cons.mpr ⟨ze_iret (by decide +kernel) rfl, ?_⟩
  exact fun _ h => absurd h List.not_mem_nil
theorem vX12_spotOf {l : Launch} {G : GT} {d : Nat} {av : List Value} {Q : Po} {σ : Mm} (cs : List (Nat × List Nat)) (k : Nat) (h : vc l G d mX12_spotOf TX12_spotOf Q cs k TX12_spotOf (lv_args 0 av) [] σ) (hlen : (lg_sl av).length ≤ mX12_spotOf.2.2.1 := by exact Nat.le_of_ble_eq_true rfl) : MW l G d mX12_spotOf av σ Q := mw_vc TX12_spotOf_ok mc_X12_spotOf rfl hlen cs k rfl h
theorem wX12_spotOf {l : Launch} {G : GT} {d : Nat} {Q : Po} {pc : Nat} {lv : Lv} {st : List Value} {σ : Mm} (cs : List (Nat × List Nat)) (k : Nat) (h : vc l G d mX12_spotOf TX12_spotOf Q cs k (drp TX12_spotOf pc) lv st σ) (hpc : hdp (drp TX12_spotOf pc) = pc := by rfl) : Wp l G d mX12_spotOf pc lv st σ Q := wp_vc TX12_spotOf_ok cs k hpc h
def TX12_usual : List In := [(0, 1, zt_iload 0), (1, 72, zt_tsw 0 13 [72, 76, 78, 78, 81, 81, 78, 84, 76, 87, 89, 87, 89, 76] 89), (72, 75, zt_ic 1000), (75, 76, zt_iret), (76, 77, zt_ic 5), (77, 78, zt_iret), (78, 80, zt_ic 50), (80, 81, zt_iret), (81, 83, zt_ic 10), (83, 84, zt_iret), (84, 86, zt_ic 20), (86, 87, zt_iret), (87, 88, zt_ic 1), (88, 89, zt_iret), (89, 90, zt_ic 0), (90, 91, zt_iret)]
theorem TX12_usual_ok : ∀ i ∈ TX12_usual, Ent mX12_usual i := by
  refine List.forall_mem_cons.mpr ⟨ze_iload_n (k := 0) (by decide +kernel) rfl, ?_⟩
  refine List.forall_mem_cons.mpr ⟨ze_tsw (len := 71) (df0 := 88) (offs := #[71, 75, 77, 77, 80, 80, 77, 83, 75, 86, 88, 86, 88, 75]) (by decide +kernel) (by decide) (by decide +kernel) (by decide), ?_⟩
  refine List.forall_mem_cons.mpr ⟨ze_sipush (n := 1000) (by decide +kernel) (by decide), ?_⟩
  refine List.forall_mem_cons.mpr ⟨ze_iret (by decide +kernel) rfl, ?_⟩
  refine List.forall_mem_cons.mpr ⟨ze_iconst (n := 5) (by decide +kernel) (by decide), ?_⟩
  refine List.forall_mem_cons.mpr ⟨ze_iret (by decide +kernel) rfl, ?_⟩
  refine List.forall_mem_cons.mpr ⟨ze_bipush (n := 50) (by decide +kernel) (by decide), ?_⟩
  refine List.forall_mem_cons.mpr ⟨ze_iret (by decide +kernel) rfl, ?_⟩
  refine List.forall_mem_cons.mpr ⟨ze_bipush (n := 10) (by decide +kernel) (by decide), ?_⟩
  refine List.forall_mem_cons.mpr ⟨ze_iret (by decide +kernel) rfl, ?_⟩
  refine List.forall_mem_cons.mpr ⟨ze_bipush (n := 20) (by decide +kernel) (by decide), ?_⟩
  refine List.forall_mem_cons.mpr ⟨ze_iret (by decide +kernel) rfl, ?_⟩
  refine List.forall_mem_cons.mpr ⟨ze_iconst (n := 1) (by decide +kernel) (by decide), ?_⟩
  refine List.forall_mem_cons.mpr ⟨ze_iret (by decide +kernel) rfl, ?_⟩
  refine List.forall_mem_cons.mpr ⟨ze_iconst (n := 0) (by decide +kernel) (by decide), ?_⟩
  refine List.forall_mem_cons.mpr ⟨ze_iret (by decide +kernel) rfl, ?_⟩
  exact fun _ h => absurd h List.not_mem_nil
theorem vX12_usual {l : Launch} {G : GT} {d : Nat} {av : List Value} {Q : Po} {σ : Mm} (cs : List (Nat × List Nat)) (k : Nat) (h : vc l G d mX12_usual TX12_usual Q cs k TX12_usual (lv_args 0 av) [] σ) (hlen : (lg_sl av).length ≤ mX12_usual.2.2.1 := by exact Nat.le_of_ble_eq_true rfl) : MW l G d mX12_usual av σ Q := mw_vc TX12_usual_ok mc_X12_usual rfl hlen cs k rfl h
theorem wX12_usual {l : Launch} {G : GT} {d : Nat} {Q : Po} {pc : Nat} {lv : Lv} {st : List Value} {σ : Mm} (cs : List (Nat × List Nat)) (k : Nat) (h : vc l G d mX12_usual TX12_usual Q cs k (drp TX12_usual pc) lv st σ) (hpc : hdp (drp TX12_usual pc) = pc := by rfl) : Wp l G d mX12_usual pc lv st σ Q := wp_vc TX12_usual_ok cs k hpc h
def TX12_mostOf : List In := [(0, 1, zt_iload 0), (1, 72, zt_tsw 0 13 [72, 76, 79, 79, 88, 88, 83, 79, 88, 76, 86, 86, 88, 79] 88), (72, 75, zt_ic 9999), (75, 76, zt_iret), (76, 78, zt_ic 12), (78, 79, zt_iret), (79, 82, zt_ic 999), (82, 83, zt_iret), (83, 85, zt_ic 100), (85, 86, zt_iret), (86, 87, zt_ic 2), (87, 88, zt_iret), (88, 90, zt_ic 99), (90, 91, zt_iret)]
theorem TX12_mostOf_ok : ∀ i ∈ TX12_mostOf, Ent mX12_mostOf i := by
  refine List.forall_mem_cons.mpr ⟨ze_iload_n (k := 0) (by decide +kernel) rfl, ?_⟩
  refine List.forall_mem_cons.mpr ⟨ze_tsw (len := 71) (df0 := 87) (offs := #[71, 75, 78, 78, 87, 87, 82, 78, 87, 75, 85, 85, 87, 78]) (by decide +kernel) (by decide) (by decide +kernel) (by decide), ?_⟩
  refine List.forall_mem_cons.mpr ⟨ze_sipush (n := 9999) (by decide +kernel) (by decide), ?_⟩
  refine List.forall_mem_cons.mpr ⟨ze_iret (by decide +kernel) rfl, ?_⟩
  refine List.forall_mem_cons.mpr ⟨ze_bipush (n := 12) (by decide +kernel) (by decide), ?_⟩
  refine List.forall_mem_cons.mpr ⟨ze_iret (by decide +kernel) rfl, ?_⟩
  refine List.forall_mem_cons.mpr ⟨ze_sipush (n := 999) (by decide +kernel) (by decide), ?_⟩
  refine List.forall_mem_cons.mpr ⟨ze_iret (by decide +kernel) rfl, ?_⟩
  refine List.forall_mem_cons.mpr ⟨ze_bipush (n := 100) (by decide +kernel) (by decide), ?_⟩
  refine List.forall_mem_cons.mpr ⟨ze_iret (by decide +kernel) rfl, ?_⟩
  refine List.forall_mem_cons.mpr ⟨ze_iconst (n := 2) (by decide +kernel) (by decide), ?_⟩
  refine List.forall_mem_cons.mpr ⟨ze_iret (by decide +kernel) rfl, ?_⟩
  refine List.forall_mem_cons.mpr ⟨ze_bipush (n := 99) (by decide +kernel) (by decide), ?_⟩
  refine List.forall_mem_cons.mpr ⟨ze_iret (by decide +kernel) rfl, ?_⟩
  exact fun _ h => absurd h List.not_mem_nil
theorem vX12_mostOf {l : Launch} {G : GT} {d : Nat} {av : List Value} {Q : Po} {σ : Mm} (cs : List (Nat × List Nat)) (k : Nat) (h : vc l G d mX12_mostOf TX12_mostOf Q cs k TX12_mostOf (lv_args 0 av) [] σ) (hlen : (lg_sl av).length ≤ mX12_mostOf.2.2.1 := by exact Nat.le_of_ble_eq_true rfl) : MW l G d mX12_mostOf av σ Q := mw_vc TX12_mostOf_ok mc_X12_mostOf rfl hlen cs k rfl h
theorem wX12_mostOf {l : Launch} {G : GT} {d : Nat} {Q : Po} {pc : Nat} {lv : Lv} {st : List Value} {σ : Mm} (cs : List (Nat × List Nat)) (k : Nat) (h : vc l G d mX12_mostOf TX12_mostOf Q cs k (drp TX12_mostOf pc) lv st σ) (hpc : hdp (drp TX12_mostOf pc) = pc := by rfl) : Wp l G d mX12_mostOf pc lv st σ Q := wp_vc TX12_mostOf_ok cs k hpc h
def TX12_laysBounds : List In := [(0, 1, zt_aload 0), (1, 2, zt_iload 1), (2, 5, zt_if_ne 10), (5, 6, zt_iload 2), (6, 7, zt_ic 2), (7, 10, zt_icmp_lt 19), (10, 11, zt_iload 1), (11, 12, zt_ic 1), (12, 15, zt_icmp_ne 23), (15, 16, zt_iload 2), (16, 19, zt_if_ne 23), (19, 20, zt_ic 1), (20, 23, zt_goto 24), (23, 24, zt_ic 0), (24, 27, zt_putI 20 18), (27, 28, zt_iload 1), (28, 31, zt_if_ne 42), (31, 32, zt_aload 0), (32, 33, zt_iload 2), (33, 36, zt_callSF mX12_mostOf 1), (36, 39, zt_putI 20 19), (39, 42, zt_goto 92), (42, 43, zt_iload 1), (43, 44, zt_ic 1), (44, 47, zt_icmp_ne 66), (47, 48, zt_aload 0), (48, 49, zt_iload 2), (49, 52, zt_if_ne 57), (52, 54, zt_ic 12), (54, 57, zt_goto 60), (57, 60, zt_ic 9999), (60, 63, zt_putI 20 19), (63, 66, zt_goto 92), (66, 67, zt_aload 0), (67, 68, zt_iload 2), (68, 69, zt_ic 2), (69, 72, zt_icmp_ge 77), (72, 74, zt_ic 11), (74, 77, zt_goto 89), (77, 78, zt_iload 1), (78, 79, zt_ic 2), (79, 82, zt_icmp_ne 88), (82, 85, zt_ic 999), (85, 88, zt_goto 89), (88, 89, zt_ic 2), (89, 92, zt_putI 20 19), (92, 93, zt_vret)]
theorem TX12_laysBounds_ok : ∀ i ∈ TX12_laysBounds, Ent mX12_laysBounds i := by
  refine List.forall_mem_cons.mpr ⟨ze_aload_n (k := 0) (by decide +kernel) rfl, ?_⟩
  refine List.forall_mem_cons.mpr ⟨ze_iload_n (k := 1) (by decide +kernel) rfl, ?_⟩
  refine List.forall_mem_cons.mpr ⟨ze_if_ne (off := 8) (by decide +kernel) (by decide), ?_⟩
  refine List.forall_mem_cons.mpr ⟨ze_iload_n (k := 2) (by decide +kernel) rfl, ?_⟩
  refine List.forall_mem_cons.mpr ⟨ze_iconst (n := 2) (by decide +kernel) (by decide), ?_⟩
  refine List.forall_mem_cons.mpr ⟨ze_icmp_lt (off := 12) (by decide +kernel) (by decide), ?_⟩
  refine List.forall_mem_cons.mpr ⟨ze_iload_n (k := 1) (by decide +kernel) rfl, ?_⟩
  refine List.forall_mem_cons.mpr ⟨ze_iconst (n := 1) (by decide +kernel) (by decide), ?_⟩
  refine List.forall_mem_cons.mpr ⟨ze_icmp_ne (off := 11) (by decide +kernel) (by decide), ?_⟩
  refine List.forall_mem_cons.mpr ⟨ze_iload_n (k := 2) (by decide +kernel) rfl, ?_⟩
  refine List.forall_mem_cons.mpr ⟨ze_if_ne (off := 7) (by decide +kernel) (by decide), ?_⟩
  refine List.forall_mem_cons.mpr ⟨ze_iconst (n := 1) (by decide +kernel) (by decide), ?_⟩
  refine List.forall_mem_cons.mpr ⟨ze_goto (off := 4) (by decide +kernel) (by decide), ?_⟩
  refine List.forall_mem_cons.mpr ⟨ze_iconst (n := 0) (by decide +kernel) (by decide), ?_⟩
  refine List.forall_mem_cons.mpr ⟨ze_putI (by decide +kernel) fl_X12_128 ⟨_, _, _, rfl, rfl, by decide +kernel⟩ rfl, ?_⟩
  refine List.forall_mem_cons.mpr ⟨ze_iload_n (k := 1) (by decide +kernel) rfl, ?_⟩
  refine List.forall_mem_cons.mpr ⟨ze_if_ne (off := 14) (by decide +kernel) (by decide), ?_⟩
  refine List.forall_mem_cons.mpr ⟨ze_aload_n (k := 0) (by decide +kernel) rfl, ?_⟩
  refine List.forall_mem_cons.mpr ⟨ze_iload_n (k := 2) (by decide +kernel) rfl, ?_⟩
  refine List.forall_mem_cons.mpr ⟨ze_callSF (idx := 131) (by decide +kernel) ml_X12_131 ms_X12_mostOf, ?_⟩
  refine List.forall_mem_cons.mpr ⟨ze_putI (by decide +kernel) fl_X12_134 ⟨_, _, _, rfl, rfl, by decide +kernel⟩ rfl, ?_⟩
  refine List.forall_mem_cons.mpr ⟨ze_goto (off := 53) (by decide +kernel) (by decide), ?_⟩
  refine List.forall_mem_cons.mpr ⟨ze_iload_n (k := 1) (by decide +kernel) rfl, ?_⟩
  refine List.forall_mem_cons.mpr ⟨ze_iconst (n := 1) (by decide +kernel) (by decide), ?_⟩
  refine List.forall_mem_cons.mpr ⟨ze_icmp_ne (off := 22) (by decide +kernel) (by decide), ?_⟩
  refine List.forall_mem_cons.mpr ⟨ze_aload_n (k := 0) (by decide +kernel) rfl, ?_⟩
  refine List.forall_mem_cons.mpr ⟨ze_iload_n (k := 2) (by decide +kernel) rfl, ?_⟩
  refine List.forall_mem_cons.mpr ⟨ze_if_ne (off := 8) (by decide +kernel) (by decide), ?_⟩
  refine List.forall_mem_cons.mpr ⟨ze_bipush (n := 12) (by decide +kernel) (by decide), ?_⟩
  refine List.forall_mem_cons.mpr ⟨ze_goto (off := 6) (by decide +kernel) (by decide), ?_⟩
  refine List.forall_mem_cons.mpr ⟨ze_sipush (n := 9999) (by decide +kernel) (by decide), ?_⟩
  refine List.forall_mem_cons.mpr ⟨ze_putI (by decide +kernel) fl_X12_134 ⟨_, _, _, rfl, rfl, by decide +kernel⟩ rfl, ?_⟩
  refine List.forall_mem_cons.mpr ⟨ze_goto (off := 29) (by decide +kernel) (by decide), ?_⟩
  refine List.forall_mem_cons.mpr ⟨ze_aload_n (k := 0) (by decide +kernel) rfl, ?_⟩
  refine List.forall_mem_cons.mpr ⟨ze_iload_n (k := 2) (by decide +kernel) rfl, ?_⟩
  refine List.forall_mem_cons.mpr ⟨ze_iconst (n := 2) (by decide +kernel) (by decide), ?_⟩
  refine List.forall_mem_cons.mpr ⟨ze_icmp_ge (off := 8) (by decide +kernel) (by decide), ?_⟩
  refine List.forall_mem_cons.mpr ⟨ze_bipush (n := 11) (by decide +kernel) (by decide), ?_⟩
  refine List.forall_mem_cons.mpr ⟨ze_goto (off := 15) (by decide +kernel) (by decide), ?_⟩
  refine List.forall_mem_cons.mpr ⟨ze_iload_n (k := 1) (by decide +kernel) rfl, ?_⟩
  refine List.forall_mem_cons.mpr ⟨ze_iconst (n := 2) (by decide +kernel) (by decide), ?_⟩
  refine List.forall_mem_cons.mpr ⟨ze_icmp_ne (off := 9) (by decide +kernel) (by decide), ?_⟩
  refine List.forall_mem_cons.mpr ⟨ze_sipush (n := 999) (by decide +kernel) (by decide), ?_⟩
  refine List.forall_mem_cons.mpr ⟨ze_goto (off := 4) (by decide +kernel) (by decide), ?_⟩
  refine List.forall_mem_cons.mpr ⟨ze_iconst (n := 2) (by decide +kernel) (by decide), ?_⟩
  refine List.forall_mem_cons.mpr ⟨ze_putI (by decide +kernel) fl_X12_134 ⟨_, _, _, rfl, rfl, by decide +kernel⟩ rfl, ?_⟩
  refine List.forall_mem_cons.mpr ⟨ze_vret (by decide +kernel) rfl, ?_⟩
  exact fun _ h => absurd h List.not_mem_nil
theorem vX12_laysBounds {l : Launch} {G : GT} {d : Nat} {av : List Value} {Q : Po} {σ : Mm} (cs : List (Nat × List Nat)) (k : Nat) (h : vc l G d mX12_laysBounds TX12_laysBounds Q cs k TX12_laysBounds (lv_args 0 av) [] σ) (hlen : (lg_sl av).length ≤ mX12_laysBounds.2.2.1 := by exact Nat.le_of_ble_eq_true rfl) : MW l G d mX12_laysBounds av σ Q := mw_vc TX12_laysBounds_ok mc_X12_laysBounds rfl hlen cs k rfl h
theorem wX12_laysBounds {l : Launch} {G : GT} {d : Nat} {Q : Po} {pc : Nat} {lv : Lv} {st : List Value} {σ : Mm} (cs : List (Nat × List Nat)) (k : Nat) (h : vc l G d mX12_laysBounds TX12_laysBounds Q cs k (drp TX12_laysBounds pc) lv st σ) (hpc : hdp (drp TX12_laysBounds pc) = pc := by rfl) : Wp l G d mX12_laysBounds pc lv st σ Q := wp_vc TX12_laysBounds_ok cs k hpc h
def TX12_items : List In := [(0, 1, zt_ic 0), (1, 3, zt_istoreF 5), (3, 5, zt_aload 4), (5, 6, zt_aload 0), (6, 9, zt_callVF mX12_look 0 20), (9, 12, zt_callSF mX12_spotOf 2), (12, 14, zt_istoreF 6), (14, 16, zt_iload 6), (16, 17, zt_ic (-1)), (17, 20, zt_icmp_eq 133), (20, 22, zt_iload 5), (22, 24, zt_iload 6), (24, 25, zt_ishr), (25, 26, zt_ic 1), (26, 27, zt_iand), (27, 28, zt_ic 1), (28, 31, zt_icmp_ne 36), (31, 32, zt_aload 0), (32, 35, zt_callVF mX12_fails 0 20), (35, 36, zt_vret), (36, 38, zt_iload 5), (38, 39, zt_ic 1), (39, 41, zt_iload 6), (41, 42, zt_ishl), (42, 43, zt_ior), (43, 45, zt_istoreF 5), (45, 46, zt_aload 0), (46, 47, zt_dup), (47, 50, zt_getI 20 3), (50, 51, zt_ic 1), (51, 52, zt_iadd), (52, 55, zt_putI 20 3), (55, 56, zt_aload 1), (56, 57, zt_iload 2), (57, 59, zt_iload 6), (59, 60, zt_iadd), (60, 61, zt_aload 0), (61, 64, zt_callVF mX12_number 0 20), (64, 65, zt_iastoreF), (65, 66, zt_aload 0), (66, 69, zt_getI 20 4), (69, 70, zt_ic (-1)), (70, 73, zt_icmp_eq 74), (73, 74, zt_vret), (74, 75, zt_aload 0), (75, 76, zt_iload 3), (76, 78, zt_iload 6), (78, 81, zt_callVF mX12_laysBounds 2 20), (81, 82, zt_aload 1), (82, 83, zt_iload 2), (83, 85, zt_iload 6), (85, 86, zt_iadd), (86, 87, zt_iald), (87, 88, zt_i2l), (88, 89, zt_aload 0), (89, 92, zt_getI 20 18), (92, 93, zt_i2l), (93, 94, zt_aload 0), (94, 97, zt_getI 20 19), (97, 98, zt_i2l), (98, 101, zt_callSF mX12_isIn 3), (101, 104, zt_if_ne 119), (104, 105, zt_aload 0), (105, 106, zt_dup), (106, 109, zt_getI 20 3), (109, 110, zt_ic 1), (110, 111, zt_isub), (111, 114, zt_putI 20 3), (114, 115, zt_aload 0), (115, 118, zt_callVF mX12_fails 0 20), (118, 119, zt_vret), (119, 121, zt_aload 4), (121, 122, zt_aload 0), (122, 125, zt_callVF mX12_look 0 20), (125, 128, zt_callSF mX12_spotOf 2), (128, 130, zt_istoreF 6), (130, 133, zt_goto 14), (133, 134, zt_vret)]
theorem TX12_items_ok : ∀ i ∈ TX12_items, Ent mX12_items i := by
  refine List.forall_mem_cons.mpr ⟨ze_iconst (n := 0) (by decide +kernel) (by decide), ?_⟩
  refine List.forall_mem_cons.mpr ⟨ze_istoreF (by decide +kernel) (by decide), ?_⟩
  refine List.forall_mem_cons.mpr ⟨ze_aload (by decide +kernel), ?_⟩
  refine List.forall_mem_cons.mpr ⟨ze_aload_n (k := 0) (by decide +kernel) rfl, ?_⟩
  refine List.forall_mem_cons.mpr ⟨ze_callVF (idx := 107) (by decide +kernel) ml_X12_107 mv_X12_look rfl, ?_⟩
  refine List.forall_mem_cons.mpr ⟨ze_callSF (idx := 137) (by decide +kernel) ml_X12_137 ms_X12_spotOf, ?_⟩
  refine List.forall_mem_cons.mpr ⟨ze_istoreF (by decide +kernel) (by decide), ?_⟩
  refine List.forall_mem_cons.mpr ⟨ze_iload (by decide +kernel), ?_⟩
  refine List.forall_mem_cons.mpr ⟨ze_iconst (n := -1) (by decide +kernel) (by decide), ?_⟩
  refine List.forall_mem_cons.mpr ⟨ze_icmp_eq (off := 116) (by decide +kernel) (by decide), ?_⟩
  refine List.forall_mem_cons.mpr ⟨ze_iload (by decide +kernel), ?_⟩
  refine List.forall_mem_cons.mpr ⟨ze_iload (by decide +kernel), ?_⟩
  refine List.forall_mem_cons.mpr ⟨ze_ishr (by decide +kernel), ?_⟩
  refine List.forall_mem_cons.mpr ⟨ze_iconst (n := 1) (by decide +kernel) (by decide), ?_⟩
  refine List.forall_mem_cons.mpr ⟨ze_iand (by decide +kernel), ?_⟩
  refine List.forall_mem_cons.mpr ⟨ze_iconst (n := 1) (by decide +kernel) (by decide), ?_⟩
  refine List.forall_mem_cons.mpr ⟨ze_icmp_ne (off := 8) (by decide +kernel) (by decide), ?_⟩
  refine List.forall_mem_cons.mpr ⟨ze_aload_n (k := 0) (by decide +kernel) rfl, ?_⟩
  refine List.forall_mem_cons.mpr ⟨ze_callVF (idx := 114) (by decide +kernel) ml_X12_114 mv_X12_fails rfl, ?_⟩
  refine List.forall_mem_cons.mpr ⟨ze_vret (by decide +kernel) rfl, ?_⟩
  refine List.forall_mem_cons.mpr ⟨ze_iload (by decide +kernel), ?_⟩
  refine List.forall_mem_cons.mpr ⟨ze_iconst (n := 1) (by decide +kernel) (by decide), ?_⟩
  refine List.forall_mem_cons.mpr ⟨ze_iload (by decide +kernel), ?_⟩
  refine List.forall_mem_cons.mpr ⟨ze_ishl (by decide +kernel), ?_⟩
  refine List.forall_mem_cons.mpr ⟨ze_ior (by decide +kernel), ?_⟩
  refine List.forall_mem_cons.mpr ⟨ze_istoreF (by decide +kernel) (by decide), ?_⟩
  refine List.forall_mem_cons.mpr ⟨ze_aload_n (k := 0) (by decide +kernel) rfl, ?_⟩
  refine List.forall_mem_cons.mpr ⟨ze_dup (by decide +kernel), ?_⟩
  refine List.forall_mem_cons.mpr ⟨ze_getI (by decide +kernel) fl_X12_97 rfl, ?_⟩
  refine List.forall_mem_cons.mpr ⟨ze_iconst (n := 1) (by decide +kernel) (by decide), ?_⟩
  refine List.forall_mem_cons.mpr ⟨ze_iadd (by decide +kernel), ?_⟩
  refine List.forall_mem_cons.mpr ⟨ze_putI (by decide +kernel) fl_X12_97 ⟨_, _, _, rfl, rfl, by decide +kernel⟩ rfl, ?_⟩
  refine List.forall_mem_cons.mpr ⟨ze_aload_n (k := 1) (by decide +kernel) rfl, ?_⟩
  refine List.forall_mem_cons.mpr ⟨ze_iload_n (k := 2) (by decide +kernel) rfl, ?_⟩
  refine List.forall_mem_cons.mpr ⟨ze_iload (by decide +kernel), ?_⟩
  refine List.forall_mem_cons.mpr ⟨ze_iadd (by decide +kernel), ?_⟩
  refine List.forall_mem_cons.mpr ⟨ze_aload_n (k := 0) (by decide +kernel) rfl, ?_⟩
  refine List.forall_mem_cons.mpr ⟨ze_callVF (idx := 141) (by decide +kernel) ml_X12_141 mv_X12_number rfl, ?_⟩
  refine List.forall_mem_cons.mpr ⟨ze_iastoreF (by decide +kernel), ?_⟩
  refine List.forall_mem_cons.mpr ⟨ze_aload_n (k := 0) (by decide +kernel) rfl, ?_⟩
  refine List.forall_mem_cons.mpr ⟨ze_getI (by decide +kernel) fl_X12_104 rfl, ?_⟩
  refine List.forall_mem_cons.mpr ⟨ze_iconst (n := -1) (by decide +kernel) (by decide), ?_⟩
  refine List.forall_mem_cons.mpr ⟨ze_icmp_eq (off := 4) (by decide +kernel) (by decide), ?_⟩
  refine List.forall_mem_cons.mpr ⟨ze_vret (by decide +kernel) rfl, ?_⟩
  refine List.forall_mem_cons.mpr ⟨ze_aload_n (k := 0) (by decide +kernel) rfl, ?_⟩
  refine List.forall_mem_cons.mpr ⟨ze_iload_n (k := 3) (by decide +kernel) rfl, ?_⟩
  refine List.forall_mem_cons.mpr ⟨ze_iload (by decide +kernel), ?_⟩
  refine List.forall_mem_cons.mpr ⟨ze_callVF (idx := 144) (by decide +kernel) ml_X12_144 mv_X12_laysBounds rfl, ?_⟩
  refine List.forall_mem_cons.mpr ⟨ze_aload_n (k := 1) (by decide +kernel) rfl, ?_⟩
  refine List.forall_mem_cons.mpr ⟨ze_iload_n (k := 2) (by decide +kernel) rfl, ?_⟩
  refine List.forall_mem_cons.mpr ⟨ze_iload (by decide +kernel), ?_⟩
  refine List.forall_mem_cons.mpr ⟨ze_iadd (by decide +kernel), ?_⟩
  refine List.forall_mem_cons.mpr ⟨ze_iald (by decide +kernel), ?_⟩
  refine List.forall_mem_cons.mpr ⟨ze_i2l (by decide +kernel), ?_⟩
  refine List.forall_mem_cons.mpr ⟨ze_aload_n (k := 0) (by decide +kernel) rfl, ?_⟩
  refine List.forall_mem_cons.mpr ⟨ze_getI (by decide +kernel) fl_X12_128 rfl, ?_⟩
  refine List.forall_mem_cons.mpr ⟨ze_i2l (by decide +kernel), ?_⟩
  refine List.forall_mem_cons.mpr ⟨ze_aload_n (k := 0) (by decide +kernel) rfl, ?_⟩
  refine List.forall_mem_cons.mpr ⟨ze_getI (by decide +kernel) fl_X12_134 rfl, ?_⟩
  refine List.forall_mem_cons.mpr ⟨ze_i2l (by decide +kernel), ?_⟩
  refine List.forall_mem_cons.mpr ⟨ze_callSF (idx := 148) (by decide +kernel) ml_X12_148 ms_X12_isIn, ?_⟩
  refine List.forall_mem_cons.mpr ⟨ze_if_ne (off := 18) (by decide +kernel) (by decide), ?_⟩
  refine List.forall_mem_cons.mpr ⟨ze_aload_n (k := 0) (by decide +kernel) rfl, ?_⟩
  refine List.forall_mem_cons.mpr ⟨ze_dup (by decide +kernel), ?_⟩
  refine List.forall_mem_cons.mpr ⟨ze_getI (by decide +kernel) fl_X12_97 rfl, ?_⟩
  refine List.forall_mem_cons.mpr ⟨ze_iconst (n := 1) (by decide +kernel) (by decide), ?_⟩
  refine List.forall_mem_cons.mpr ⟨ze_isub (by decide +kernel), ?_⟩
  refine List.forall_mem_cons.mpr ⟨ze_putI (by decide +kernel) fl_X12_97 ⟨_, _, _, rfl, rfl, by decide +kernel⟩ rfl, ?_⟩
  refine List.forall_mem_cons.mpr ⟨ze_aload_n (k := 0) (by decide +kernel) rfl, ?_⟩
  refine List.forall_mem_cons.mpr ⟨ze_callVF (idx := 114) (by decide +kernel) ml_X12_114 mv_X12_fails rfl, ?_⟩
  refine List.forall_mem_cons.mpr ⟨ze_vret (by decide +kernel) rfl, ?_⟩
  refine List.forall_mem_cons.mpr ⟨ze_aload (by decide +kernel), ?_⟩
  refine List.forall_mem_cons.mpr ⟨ze_aload_n (k := 0) (by decide +kernel) rfl, ?_⟩
  refine List.forall_mem_cons.mpr ⟨ze_callVF (idx := 107) (by decide +kernel) ml_X12_107 mv_X12_look rfl, ?_⟩
  refine List.forall_mem_cons.mpr ⟨ze_callSF (idx := 137) (by decide +kernel) ml_X12_137 ms_X12_spotOf, ?_⟩
  refine List.forall_mem_cons.mpr ⟨ze_istoreF (by decide +kernel) (by decide), ?_⟩
  refine List.forall_mem_cons.mpr ⟨ze_goto (off := -116) (by decide +kernel) (by decide), ?_⟩
  refine List.forall_mem_cons.mpr ⟨ze_vret (by decide +kernel) rfl, ?_⟩
  exact fun _ h => absurd h List.not_mem_nil
theorem vX12_items {l : Launch} {G : GT} {d : Nat} {av : List Value} {Q : Po} {σ : Mm} (cs : List (Nat × List Nat)) (k : Nat) (h : vc l G d mX12_items TX12_items Q cs k TX12_items (lv_args 0 av) [] σ) (hlen : (lg_sl av).length ≤ mX12_items.2.2.1 := by exact Nat.le_of_ble_eq_true rfl) : MW l G d mX12_items av σ Q := mw_vc TX12_items_ok mc_X12_items rfl hlen cs k rfl h
theorem wX12_items {l : Launch} {G : GT} {d : Nat} {Q : Po} {pc : Nat} {lv : Lv} {st : List Value} {σ : Mm} (cs : List (Nat × List Nat)) (k : Nat) (h : vc l G d mX12_items TX12_items Q cs k (drp TX12_items pc) lv st σ) (hpc : hdp (drp TX12_items pc) = pc := by rfl) : Wp l G d mX12_items pc lv st σ Q := wp_vc TX12_items_ok cs k hpc h
def TX12_clause : List In := [(0, 1, zt_aload 0), (1, 4, zt_callVF mX12_look 0 20), (4, 5, zt_istoreF 2), (5, 6, zt_iload 2), (6, 8, zt_ic 108), (8, 11, zt_icmp_ne 23), (11, 12, zt_iload 1), (12, 15, zt_if_ne 19), (15, 16, zt_ic 1), (16, 19, zt_goto 66), (19, 20, zt_ic 0), (20, 23, zt_goto 66), (23, 24, zt_iload 2), (24, 26, zt_ic 105), (26, 29, zt_icmp_ne 46), (29, 30, zt_aload 0), (30, 33, zt_getI 20 13), (33, 35, zt_ic 12), (35, 38, zt_icmp_ge 42), (38, 39, zt_ic 1), (39, 42, zt_goto 66), (42, 43, zt_ic 0), (43, 46, zt_goto 66), (46, 47, zt_iload 2), (47, 49, zt_ic 120), (49, 52, zt_icmp_ne 65), (52, 53, zt_aload 0), (53, 56, zt_getI 20 14), (56, 58, zt_ic 16), (58, 61, zt_icmp_ge 65), (61, 62, zt_ic 1), (62, 65, zt_goto 66), (65, 66, zt_ic 0), (66, 67, zt_istoreF 3), (67, 68, zt_iload 3), (68, 71, zt_if_ne 77), (71, 72, zt_aload 0), (72, 75, zt_callVF mX12_fails 0 20), (75, 76, zt_iload 1), (76, 77, zt_zret), (77, 78, zt_aload 0), (78, 79, zt_dup), (79, 82, zt_getI 20 3), (82, 83, zt_ic 1), (83, 84, zt_iadd), (84, 87, zt_putI 20 3), (87, 88, zt_iload 2), (88, 90, zt_ic 108), (90, 93, zt_icmp_ne 107), (93, 94, zt_aload 0), (94, 95, zt_aload 0), (95, 98, zt_getL 20 5), (98, 99, zt_ic 0), (99, 100, zt_ic 0), (100, 102, zt_lds 210), (102, 105, zt_callVF mX12_items 4 20), (105, 106, zt_ic 1), (106, 107, zt_zret), (107, 108, zt_iload 2), (108, 110, zt_ic 105), (110, 113, zt_icmp_ne 170), (113, 114, zt_aload 0), (114, 117, zt_getL 20 7), (117, 118, zt_ic 2), (118, 119, zt_aload 0), (119, 122, zt_getI 20 13), (122, 123, zt_imul), (123, 124, zt_ic 1), (124, 125, zt_iastoreF), (125, 126, zt_aload 0), (126, 129, zt_getL 20 7), (129, 130, zt_ic 2), (130, 131, zt_aload 0), (131, 134, zt_getI 20 13), (134, 135, zt_imul), (135, 136, zt_ic 1), (136, 137, zt_iadd), (137, 138, zt_ic 0), (138, 139, zt_iastoreF), (139, 140, zt_aload 0), (140, 141, zt_dup), (141, 144, zt_getI 20 13), (144, 145, zt_ic 1), (145, 146, zt_iadd), (146, 149, zt_putI 20 13), (149, 150, zt_aload 0), (150, 151, zt_aload 0), (151, 154, zt_getL 20 7), (154, 155, zt_ic 2), (155, 156, zt_aload 0), (156, 159, zt_getI 20 13), (159, 160, zt_imul), (160, 161, zt_ic 2), (161, 162, zt_isub), (162, 163, zt_ic 1), (163, 165, zt_lds 211), (165, 168, zt_callVF mX12_items 4 20), (168, 169, zt_iload 1), (169, 170, zt_zret), (170, 171, zt_ic 0), (171, 173, zt_istoreF 4), (173, 175, zt_iload 4), (175, 176, zt_ic 3), (176, 179, zt_icmp_ge 200), (179, 180, zt_aload 0), (180, 183, zt_getL 20 8), (183, 184, zt_ic 3), (184, 185, zt_aload 0), (185, 188, zt_getI 20 14), (188, 189, zt_imul), (189, 191, zt_iload 4), (191, 192, zt_iadd), (192, 193, zt_ic 0), (193, 194, zt_iastoreF), (194, 197, zt_iincF 4 1), (197, 200, zt_goto 173), (200, 201, zt_aload 0), (201, 202, zt_dup), (202, 205, zt_getI 20 14), (205, 206, zt_ic 1), (206, 207, zt_iadd), (207, 210, zt_putI 20 14), (210, 211, zt_aload 0), (211, 212, zt_aload 0), (212, 215, zt_getL 20 8), (215, 216, zt_ic 3), (216, 217, zt_aload 0), (217, 220, zt_getI 20 14), (220, 221, zt_imul), (221, 222, zt_ic 3), (222, 223, zt_isub), (223, 224, zt_ic 2), (224, 226, zt_lds 212), (226, 229, zt_callVF mX12_items 4 20), (229, 230, zt_iload 1), (230, 231, zt_zret)]
theorem TX12_clause_ok : ∀ i ∈ TX12_clause, Ent mX12_clause i := by
  refine List.forall_mem_cons.mpr ⟨ze_aload_n (k := 0) (by decide +kernel) rfl, ?_⟩
  refine List.forall_mem_cons.mpr ⟨ze_callVF (idx := 107) (by decide +kernel) ml_X12_107 mv_X12_look rfl, ?_⟩
  refine List.forall_mem_cons.mpr ⟨ze_istoreF_n (k := 2) (by decide +kernel) rfl (by decide), ?_⟩
  refine List.forall_mem_cons.mpr ⟨ze_iload_n (k := 2) (by decide +kernel) rfl, ?_⟩
  refine List.forall_mem_cons.mpr ⟨ze_bipush (n := 108) (by decide +kernel) (by decide), ?_⟩
  refine List.forall_mem_cons.mpr ⟨ze_icmp_ne (off := 15) (by decide +kernel) (by decide), ?_⟩
  refine List.forall_mem_cons.mpr ⟨ze_iload_n (k := 1) (by decide +kernel) rfl, ?_⟩
  refine List.forall_mem_cons.mpr ⟨ze_if_ne (off := 7) (by decide +kernel) (by decide), ?_⟩
  refine List.forall_mem_cons.mpr ⟨ze_iconst (n := 1) (by decide +kernel) (by decide), ?_⟩
  refine List.forall_mem_cons.mpr ⟨ze_goto (off := 50) (by decide +kernel) (by decide), ?_⟩
  refine List.forall_mem_cons.mpr ⟨ze_iconst (n := 0) (by decide +kernel) (by decide), ?_⟩
  refine List.forall_mem_cons.mpr ⟨ze_goto (off := 46) (by decide +kernel) (by decide), ?_⟩
  refine List.forall_mem_cons.mpr ⟨ze_iload_n (k := 2) (by decide +kernel) rfl, ?_⟩
  refine List.forall_mem_cons.mpr ⟨ze_bipush (n := 105) (by decide +kernel) (by decide), ?_⟩
  refine List.forall_mem_cons.mpr ⟨ze_icmp_ne (off := 20) (by decide +kernel) (by decide), ?_⟩
  refine List.forall_mem_cons.mpr ⟨ze_aload_n (k := 0) (by decide +kernel) rfl, ?_⟩
  refine List.forall_mem_cons.mpr ⟨ze_getI (by decide +kernel) fl_X12_152 rfl, ?_⟩
  refine List.forall_mem_cons.mpr ⟨ze_bipush (n := 12) (by decide +kernel) (by decide), ?_⟩
  refine List.forall_mem_cons.mpr ⟨ze_icmp_ge (off := 7) (by decide +kernel) (by decide), ?_⟩
  refine List.forall_mem_cons.mpr ⟨ze_iconst (n := 1) (by decide +kernel) (by decide), ?_⟩
  refine List.forall_mem_cons.mpr ⟨ze_goto (off := 27) (by decide +kernel) (by decide), ?_⟩
  refine List.forall_mem_cons.mpr ⟨ze_iconst (n := 0) (by decide +kernel) (by decide), ?_⟩
  refine List.forall_mem_cons.mpr ⟨ze_goto (off := 23) (by decide +kernel) (by decide), ?_⟩
  refine List.forall_mem_cons.mpr ⟨ze_iload_n (k := 2) (by decide +kernel) rfl, ?_⟩
  refine List.forall_mem_cons.mpr ⟨ze_bipush (n := 120) (by decide +kernel) (by decide), ?_⟩
  refine List.forall_mem_cons.mpr ⟨ze_icmp_ne (off := 16) (by decide +kernel) (by decide), ?_⟩
  refine List.forall_mem_cons.mpr ⟨ze_aload_n (k := 0) (by decide +kernel) rfl, ?_⟩
  refine List.forall_mem_cons.mpr ⟨ze_getI (by decide +kernel) fl_X12_155 rfl, ?_⟩
  refine List.forall_mem_cons.mpr ⟨ze_bipush (n := 16) (by decide +kernel) (by decide), ?_⟩
  refine List.forall_mem_cons.mpr ⟨ze_icmp_ge (off := 7) (by decide +kernel) (by decide), ?_⟩
  refine List.forall_mem_cons.mpr ⟨ze_iconst (n := 1) (by decide +kernel) (by decide), ?_⟩
  refine List.forall_mem_cons.mpr ⟨ze_goto (off := 4) (by decide +kernel) (by decide), ?_⟩
  refine List.forall_mem_cons.mpr ⟨ze_iconst (n := 0) (by decide +kernel) (by decide), ?_⟩
  refine List.forall_mem_cons.mpr ⟨ze_istoreF_n (k := 3) (by decide +kernel) rfl (by decide), ?_⟩
  refine List.forall_mem_cons.mpr ⟨ze_iload_n (k := 3) (by decide +kernel) rfl, ?_⟩
  refine List.forall_mem_cons.mpr ⟨ze_if_ne (off := 9) (by decide +kernel) (by decide), ?_⟩
  refine List.forall_mem_cons.mpr ⟨ze_aload_n (k := 0) (by decide +kernel) rfl, ?_⟩
  refine List.forall_mem_cons.mpr ⟨ze_callVF (idx := 114) (by decide +kernel) ml_X12_114 mv_X12_fails rfl, ?_⟩
  refine List.forall_mem_cons.mpr ⟨ze_iload_n (k := 1) (by decide +kernel) rfl, ?_⟩
  refine List.forall_mem_cons.mpr ⟨ze_zret (by decide +kernel) rfl, ?_⟩
  refine List.forall_mem_cons.mpr ⟨ze_aload_n (k := 0) (by decide +kernel) rfl, ?_⟩
  refine List.forall_mem_cons.mpr ⟨ze_dup (by decide +kernel), ?_⟩
  refine List.forall_mem_cons.mpr ⟨ze_getI (by decide +kernel) fl_X12_97 rfl, ?_⟩
  refine List.forall_mem_cons.mpr ⟨ze_iconst (n := 1) (by decide +kernel) (by decide), ?_⟩
  refine List.forall_mem_cons.mpr ⟨ze_iadd (by decide +kernel), ?_⟩
  refine List.forall_mem_cons.mpr ⟨ze_putI (by decide +kernel) fl_X12_97 ⟨_, _, _, rfl, rfl, by decide +kernel⟩ rfl, ?_⟩
  refine List.forall_mem_cons.mpr ⟨ze_iload_n (k := 2) (by decide +kernel) rfl, ?_⟩
  refine List.forall_mem_cons.mpr ⟨ze_bipush (n := 108) (by decide +kernel) (by decide), ?_⟩
  refine List.forall_mem_cons.mpr ⟨ze_icmp_ne (off := 17) (by decide +kernel) (by decide), ?_⟩
  refine List.forall_mem_cons.mpr ⟨ze_aload_n (k := 0) (by decide +kernel) rfl, ?_⟩
  refine List.forall_mem_cons.mpr ⟨ze_aload_n (k := 0) (by decide +kernel) rfl, ?_⟩
  refine List.forall_mem_cons.mpr ⟨ze_getL (by decide +kernel) fl_X12_13 rfl (by decide), ?_⟩
  refine List.forall_mem_cons.mpr ⟨ze_iconst (n := 0) (by decide +kernel) (by decide), ?_⟩
  refine List.forall_mem_cons.mpr ⟨ze_iconst (n := 0) (by decide +kernel) (by decide), ?_⟩
  refine List.forall_mem_cons.mpr ⟨ze_lds (a := 210) (by decide +kernel) (by decide) rfl, ?_⟩
  refine List.forall_mem_cons.mpr ⟨ze_callVF (idx := 160) (by decide +kernel) ml_X12_160 mv_X12_items rfl, ?_⟩
  refine List.forall_mem_cons.mpr ⟨ze_iconst (n := 1) (by decide +kernel) (by decide), ?_⟩
  refine List.forall_mem_cons.mpr ⟨ze_zret (by decide +kernel) rfl, ?_⟩
  refine List.forall_mem_cons.mpr ⟨ze_iload_n (k := 2) (by decide +kernel) rfl, ?_⟩
  refine List.forall_mem_cons.mpr ⟨ze_bipush (n := 105) (by decide +kernel) (by decide), ?_⟩
  refine List.forall_mem_cons.mpr ⟨ze_icmp_ne (off := 60) (by decide +kernel) (by decide), ?_⟩
  refine List.forall_mem_cons.mpr ⟨ze_aload_n (k := 0) (by decide +kernel) rfl, ?_⟩
  refine List.forall_mem_cons.mpr ⟨ze_getL (by decide +kernel) fl_X12_20 rfl (by decide), ?_⟩
  refine List.forall_mem_cons.mpr ⟨ze_iconst (n := 2) (by decide +kernel) (by decide), ?_⟩
  refine List.forall_mem_cons.mpr ⟨ze_aload_n (k := 0) (by decide +kernel) rfl, ?_⟩
  refine List.forall_mem_cons.mpr ⟨ze_getI (by decide +kernel) fl_X12_152 rfl, ?_⟩
  refine List.forall_mem_cons.mpr ⟨ze_imul (by decide +kernel), ?_⟩
  refine List.forall_mem_cons.mpr ⟨ze_iconst (n := 1) (by decide +kernel) (by decide), ?_⟩
  refine List.forall_mem_cons.mpr ⟨ze_iastoreF (by decide +kernel), ?_⟩
  refine List.forall_mem_cons.mpr ⟨ze_aload_n (k := 0) (by decide +kernel) rfl, ?_⟩
  refine List.forall_mem_cons.mpr ⟨ze_getL (by decide +kernel) fl_X12_20 rfl (by decide), ?_⟩
  refine List.forall_mem_cons.mpr ⟨ze_iconst (n := 2) (by decide +kernel) (by decide), ?_⟩
  refine List.forall_mem_cons.mpr ⟨ze_aload_n (k := 0) (by decide +kernel) rfl, ?_⟩
  refine List.forall_mem_cons.mpr ⟨ze_getI (by decide +kernel) fl_X12_152 rfl, ?_⟩
  refine List.forall_mem_cons.mpr ⟨ze_imul (by decide +kernel), ?_⟩
  refine List.forall_mem_cons.mpr ⟨ze_iconst (n := 1) (by decide +kernel) (by decide), ?_⟩
  refine List.forall_mem_cons.mpr ⟨ze_iadd (by decide +kernel), ?_⟩
  refine List.forall_mem_cons.mpr ⟨ze_iconst (n := 0) (by decide +kernel) (by decide), ?_⟩
  refine List.forall_mem_cons.mpr ⟨ze_iastoreF (by decide +kernel), ?_⟩
  refine List.forall_mem_cons.mpr ⟨ze_aload_n (k := 0) (by decide +kernel) rfl, ?_⟩
  refine List.forall_mem_cons.mpr ⟨ze_dup (by decide +kernel), ?_⟩
  refine List.forall_mem_cons.mpr ⟨ze_getI (by decide +kernel) fl_X12_152 rfl, ?_⟩
  refine List.forall_mem_cons.mpr ⟨ze_iconst (n := 1) (by decide +kernel) (by decide), ?_⟩
  refine List.forall_mem_cons.mpr ⟨ze_iadd (by decide +kernel), ?_⟩
  refine List.forall_mem_cons.mpr ⟨ze_putI (by decide +kernel) fl_X12_152 ⟨_, _, _, rfl, rfl, by decide +kernel⟩ rfl, ?_⟩
  refine List.forall_mem_cons.mpr ⟨ze_aload_n (k := 0) (by decide +kernel) rfl, ?_⟩
  refine List.forall_mem_cons.mpr ⟨ze_aload_n (k := 0) (by decide +kernel) rfl, ?_⟩
  refine List.forall_mem_cons.mpr ⟨ze_getL (by decide +kernel) fl_X12_20 rfl (by decide), ?_⟩
  refine List.forall_mem_cons.mpr ⟨ze_iconst (n := 2) (by decide +kernel) (by decide), ?_⟩
  refine List.forall_mem_cons.mpr ⟨ze_aload_n (k := 0) (by decide +kernel) rfl, ?_⟩
  refine List.forall_mem_cons.mpr ⟨ze_getI (by decide +kernel) fl_X12_152 rfl, ?_⟩
  refine List.forall_mem_cons.mpr ⟨ze_imul (by decide +kernel), ?_⟩
  refine List.forall_mem_cons.mpr ⟨ze_iconst (n := 2) (by decide +kernel) (by decide), ?_⟩
  refine List.forall_mem_cons.mpr ⟨ze_isub (by decide +kernel), ?_⟩
  refine List.forall_mem_cons.mpr ⟨ze_iconst (n := 1) (by decide +kernel) (by decide), ?_⟩
  refine List.forall_mem_cons.mpr ⟨ze_lds (a := 211) (by decide +kernel) (by decide) rfl, ?_⟩
  refine List.forall_mem_cons.mpr ⟨ze_callVF (idx := 160) (by decide +kernel) ml_X12_160 mv_X12_items rfl, ?_⟩
  refine List.forall_mem_cons.mpr ⟨ze_iload_n (k := 1) (by decide +kernel) rfl, ?_⟩
  refine List.forall_mem_cons.mpr ⟨ze_zret (by decide +kernel) rfl, ?_⟩
  refine List.forall_mem_cons.mpr ⟨ze_iconst (n := 0) (by decide +kernel) (by decide), ?_⟩
  refine List.forall_mem_cons.mpr ⟨ze_istoreF (by decide +kernel) (by decide), ?_⟩
  refine List.forall_mem_cons.mpr ⟨ze_iload (by decide +kernel), ?_⟩
  refine List.forall_mem_cons.mpr ⟨ze_iconst (n := 3) (by decide +kernel) (by decide), ?_⟩
  refine List.forall_mem_cons.mpr ⟨ze_icmp_ge (off := 24) (by decide +kernel) (by decide), ?_⟩
  refine List.forall_mem_cons.mpr ⟨ze_aload_n (k := 0) (by decide +kernel) rfl, ?_⟩
  refine List.forall_mem_cons.mpr ⟨ze_getL (by decide +kernel) fl_X12_23 rfl (by decide), ?_⟩
  refine List.forall_mem_cons.mpr ⟨ze_iconst (n := 3) (by decide +kernel) (by decide), ?_⟩
  refine List.forall_mem_cons.mpr ⟨ze_aload_n (k := 0) (by decide +kernel) rfl, ?_⟩
  refine List.forall_mem_cons.mpr ⟨ze_getI (by decide +kernel) fl_X12_155 rfl, ?_⟩
  refine List.forall_mem_cons.mpr ⟨ze_imul (by decide +kernel), ?_⟩
  refine List.forall_mem_cons.mpr ⟨ze_iload (by decide +kernel), ?_⟩
  refine List.forall_mem_cons.mpr ⟨ze_iadd (by decide +kernel), ?_⟩
  refine List.forall_mem_cons.mpr ⟨ze_iconst (n := 0) (by decide +kernel) (by decide), ?_⟩
  refine List.forall_mem_cons.mpr ⟨ze_iastoreF (by decide +kernel), ?_⟩
  refine List.forall_mem_cons.mpr ⟨ze_iincF (n := 1) (by decide +kernel) (by decide) (by decide), ?_⟩
  refine List.forall_mem_cons.mpr ⟨ze_goto (off := -24) (by decide +kernel) (by decide), ?_⟩
  refine List.forall_mem_cons.mpr ⟨ze_aload_n (k := 0) (by decide +kernel) rfl, ?_⟩
  refine List.forall_mem_cons.mpr ⟨ze_dup (by decide +kernel), ?_⟩
  refine List.forall_mem_cons.mpr ⟨ze_getI (by decide +kernel) fl_X12_155 rfl, ?_⟩
  refine List.forall_mem_cons.mpr ⟨ze_iconst (n := 1) (by decide +kernel) (by decide), ?_⟩
  refine List.forall_mem_cons.mpr ⟨ze_iadd (by decide +kernel), ?_⟩
  refine List.forall_mem_cons.mpr ⟨ze_putI (by decide +kernel) fl_X12_155 ⟨_, _, _, rfl, rfl, by decide +kernel⟩ rfl, ?_⟩
  refine List.forall_mem_cons.mpr ⟨ze_aload_n (k := 0) (by decide +kernel) rfl, ?_⟩
  refine List.forall_mem_cons.mpr ⟨ze_aload_n (k := 0) (by decide +kernel) rfl, ?_⟩
  refine List.forall_mem_cons.mpr ⟨ze_getL (by decide +kernel) fl_X12_23 rfl (by decide), ?_⟩
  refine List.forall_mem_cons.mpr ⟨ze_iconst (n := 3) (by decide +kernel) (by decide), ?_⟩
  refine List.forall_mem_cons.mpr ⟨ze_aload_n (k := 0) (by decide +kernel) rfl, ?_⟩
  refine List.forall_mem_cons.mpr ⟨ze_getI (by decide +kernel) fl_X12_155 rfl, ?_⟩
  refine List.forall_mem_cons.mpr ⟨ze_imul (by decide +kernel), ?_⟩
  refine List.forall_mem_cons.mpr ⟨ze_iconst (n := 3) (by decide +kernel) (by decide), ?_⟩
  refine List.forall_mem_cons.mpr ⟨ze_isub (by decide +kernel), ?_⟩
  refine List.forall_mem_cons.mpr ⟨ze_iconst (n := 2) (by decide +kernel) (by decide), ?_⟩
  refine List.forall_mem_cons.mpr ⟨ze_lds (a := 212) (by decide +kernel) (by decide) rfl, ?_⟩
  refine List.forall_mem_cons.mpr ⟨ze_callVF (idx := 160) (by decide +kernel) ml_X12_160 mv_X12_items rfl, ?_⟩
  refine List.forall_mem_cons.mpr ⟨ze_iload_n (k := 1) (by decide +kernel) rfl, ?_⟩
  refine List.forall_mem_cons.mpr ⟨ze_zret (by decide +kernel) rfl, ?_⟩
  exact fun _ h => absurd h List.not_mem_nil
theorem vX12_clause {l : Launch} {G : GT} {d : Nat} {av : List Value} {Q : Po} {σ : Mm} (cs : List (Nat × List Nat)) (k : Nat) (h : vc l G d mX12_clause TX12_clause Q cs k TX12_clause (lv_args 0 av) [] σ) (hlen : (lg_sl av).length ≤ mX12_clause.2.2.1 := by exact Nat.le_of_ble_eq_true rfl) : MW l G d mX12_clause av σ Q := mw_vc TX12_clause_ok mc_X12_clause rfl hlen cs k rfl h
theorem wX12_clause {l : Launch} {G : GT} {d : Nat} {Q : Po} {pc : Nat} {lv : Lv} {st : List Value} {σ : Mm} (cs : List (Nat × List Nat)) (k : Nat) (h : vc l G d mX12_clause TX12_clause Q cs k (drp TX12_clause pc) lv st σ) (hpc : hdp (drp TX12_clause pc) = pc := by rfl) : Wp l G d mX12_clause pc lv st σ Q := wp_vc TX12_clause_ok cs k hpc h
def TX12_readLoan : List In := [(0, 1, zt_ic 0), (1, 2, zt_istoreF 1), (2, 3, zt_iload 1), (3, 5, zt_ic 14), (5, 8, zt_icmp_ge 24), (8, 9, zt_aload 0), (9, 12, zt_getL 20 5), (12, 13, zt_iload 1), (13, 14, zt_iload 1), (14, 17, zt_callSF mX12_usual 1), (17, 18, zt_iastoreF), (18, 21, zt_iincF 1 1), (21, 24, zt_goto 2), (24, 25, zt_aload 0), (25, 26, zt_ic 0), (26, 29, zt_putI 20 13), (29, 30, zt_aload 0), (30, 31, zt_ic 0), (31, 34, zt_putI 20 14), (34, 35, zt_aload 0), (35, 36, zt_ic 0), (36, 39, zt_callVF mX12_clause 1 20), (39, 40, zt_istoreF 1), (40, 41, zt_aload 0), (41, 44, zt_getI 20 4), (44, 45, zt_ic (-1)), (45, 48, zt_icmp_ne 76), (48, 49, zt_aload 0), (49, 52, zt_callVF mX12_look 0 20), (52, 54, zt_ic 59), (54, 57, zt_icmp_ne 76), (57, 58, zt_aload 0), (58, 59, zt_dup), (59, 62, zt_getI 20 3), (62, 63, zt_ic 1), (63, 64, zt_iadd), (64, 67, zt_putI 20 3), (67, 68, zt_aload 0), (68, 69, zt_iload 1), (69, 72, zt_callVF mX12_clause 1 20), (72, 73, zt_istoreF 1), (73, 76, zt_goto 40), (76, 77, zt_aload 0), (77, 80, zt_getI 20 4), (80, 81, zt_ic (-1)), (81, 84, zt_icmp_ne 96), (84, 85, zt_aload 0), (85, 88, zt_callVF mX12_look 0 20), (88, 89, zt_ic (-1)), (89, 92, zt_icmp_eq 96), (92, 93, zt_aload 0), (93, 96, zt_callVF mX12_fails 0 20), (96, 97, zt_vret)]
theorem TX12_readLoan_ok : ∀ i ∈ TX12_readLoan, Ent mX12_readLoan i := by
  refine List.forall_mem_cons.mpr ⟨ze_iconst (n := 0) (by decide +kernel) (by decide), ?_⟩
  refine List.forall_mem_cons.mpr ⟨ze_istoreF_n (k := 1) (by decide +kernel) rfl (by decide), ?_⟩
  refine List.forall_mem_cons.mpr ⟨ze_iload_n (k := 1) (by decide +kernel) rfl, ?_⟩
  refine List.forall_mem_cons.mpr ⟨ze_bipush (n := 14) (by decide +kernel) (by decide), ?_⟩
  refine List.forall_mem_cons.mpr ⟨ze_icmp_ge (off := 19) (by decide +kernel) (by decide), ?_⟩
  refine List.forall_mem_cons.mpr ⟨ze_aload_n (k := 0) (by decide +kernel) rfl, ?_⟩
  refine List.forall_mem_cons.mpr ⟨ze_getL (by decide +kernel) fl_X12_13 rfl (by decide), ?_⟩
  refine List.forall_mem_cons.mpr ⟨ze_iload_n (k := 1) (by decide +kernel) rfl, ?_⟩
  refine List.forall_mem_cons.mpr ⟨ze_iload_n (k := 1) (by decide +kernel) rfl, ?_⟩
  refine List.forall_mem_cons.mpr ⟨ze_callSF (idx := 168) (by decide +kernel) ml_X12_168 ms_X12_usual, ?_⟩
  refine List.forall_mem_cons.mpr ⟨ze_iastoreF (by decide +kernel), ?_⟩
  refine List.forall_mem_cons.mpr ⟨ze_iincF (n := 1) (by decide +kernel) (by decide) (by decide), ?_⟩
  refine List.forall_mem_cons.mpr ⟨ze_goto (off := -19) (by decide +kernel) (by decide), ?_⟩
  refine List.forall_mem_cons.mpr ⟨ze_aload_n (k := 0) (by decide +kernel) rfl, ?_⟩
  refine List.forall_mem_cons.mpr ⟨ze_iconst (n := 0) (by decide +kernel) (by decide), ?_⟩
  refine List.forall_mem_cons.mpr ⟨ze_putI (by decide +kernel) fl_X12_152 ⟨_, _, _, rfl, rfl, by decide +kernel⟩ rfl, ?_⟩
  refine List.forall_mem_cons.mpr ⟨ze_aload_n (k := 0) (by decide +kernel) rfl, ?_⟩
  refine List.forall_mem_cons.mpr ⟨ze_iconst (n := 0) (by decide +kernel) (by decide), ?_⟩
  refine List.forall_mem_cons.mpr ⟨ze_putI (by decide +kernel) fl_X12_155 ⟨_, _, _, rfl, rfl, by decide +kernel⟩ rfl, ?_⟩
  refine List.forall_mem_cons.mpr ⟨ze_aload_n (k := 0) (by decide +kernel) rfl, ?_⟩
  refine List.forall_mem_cons.mpr ⟨ze_iconst (n := 0) (by decide +kernel) (by decide), ?_⟩
  refine List.forall_mem_cons.mpr ⟨ze_callVF (idx := 171) (by decide +kernel) ml_X12_171 mv_X12_clause rfl, ?_⟩
  refine List.forall_mem_cons.mpr ⟨ze_istoreF_n (k := 1) (by decide +kernel) rfl (by decide), ?_⟩
  refine List.forall_mem_cons.mpr ⟨ze_aload_n (k := 0) (by decide +kernel) rfl, ?_⟩
  refine List.forall_mem_cons.mpr ⟨ze_getI (by decide +kernel) fl_X12_104 rfl, ?_⟩
  refine List.forall_mem_cons.mpr ⟨ze_iconst (n := -1) (by decide +kernel) (by decide), ?_⟩
  refine List.forall_mem_cons.mpr ⟨ze_icmp_ne (off := 31) (by decide +kernel) (by decide), ?_⟩
  refine List.forall_mem_cons.mpr ⟨ze_aload_n (k := 0) (by decide +kernel) rfl, ?_⟩
  refine List.forall_mem_cons.mpr ⟨ze_callVF (idx := 107) (by decide +kernel) ml_X12_107 mv_X12_look rfl, ?_⟩
  refine List.forall_mem_cons.mpr ⟨ze_bipush (n := 59) (by decide +kernel) (by decide), ?_⟩
  refine List.forall_mem_cons.mpr ⟨ze_icmp_ne (off := 22) (by decide +kernel) (by decide), ?_⟩
  refine List.forall_mem_cons.mpr ⟨ze_aload_n (k := 0) (by decide +kernel) rfl, ?_⟩
  refine List.forall_mem_cons.mpr ⟨ze_dup (by decide +kernel), ?_⟩
  refine List.forall_mem_cons.mpr ⟨ze_getI (by decide +kernel) fl_X12_97 rfl, ?_⟩
  refine List.forall_mem_cons.mpr ⟨ze_iconst (n := 1) (by decide +kernel) (by decide), ?_⟩
  refine List.forall_mem_cons.mpr ⟨ze_iadd (by decide +kernel), ?_⟩
  refine List.forall_mem_cons.mpr ⟨ze_putI (by decide +kernel) fl_X12_97 ⟨_, _, _, rfl, rfl, by decide +kernel⟩ rfl, ?_⟩
  refine List.forall_mem_cons.mpr ⟨ze_aload_n (k := 0) (by decide +kernel) rfl, ?_⟩
  refine List.forall_mem_cons.mpr ⟨ze_iload_n (k := 1) (by decide +kernel) rfl, ?_⟩
  refine List.forall_mem_cons.mpr ⟨ze_callVF (idx := 171) (by decide +kernel) ml_X12_171 mv_X12_clause rfl, ?_⟩
  refine List.forall_mem_cons.mpr ⟨ze_istoreF_n (k := 1) (by decide +kernel) rfl (by decide), ?_⟩
  refine List.forall_mem_cons.mpr ⟨ze_goto (off := -33) (by decide +kernel) (by decide), ?_⟩
  refine List.forall_mem_cons.mpr ⟨ze_aload_n (k := 0) (by decide +kernel) rfl, ?_⟩
  refine List.forall_mem_cons.mpr ⟨ze_getI (by decide +kernel) fl_X12_104 rfl, ?_⟩
  refine List.forall_mem_cons.mpr ⟨ze_iconst (n := -1) (by decide +kernel) (by decide), ?_⟩
  refine List.forall_mem_cons.mpr ⟨ze_icmp_ne (off := 15) (by decide +kernel) (by decide), ?_⟩
  refine List.forall_mem_cons.mpr ⟨ze_aload_n (k := 0) (by decide +kernel) rfl, ?_⟩
  refine List.forall_mem_cons.mpr ⟨ze_callVF (idx := 107) (by decide +kernel) ml_X12_107 mv_X12_look rfl, ?_⟩
  refine List.forall_mem_cons.mpr ⟨ze_iconst (n := -1) (by decide +kernel) (by decide), ?_⟩
  refine List.forall_mem_cons.mpr ⟨ze_icmp_eq (off := 7) (by decide +kernel) (by decide), ?_⟩
  refine List.forall_mem_cons.mpr ⟨ze_aload_n (k := 0) (by decide +kernel) rfl, ?_⟩
  refine List.forall_mem_cons.mpr ⟨ze_callVF (idx := 114) (by decide +kernel) ml_X12_114 mv_X12_fails rfl, ?_⟩
  refine List.forall_mem_cons.mpr ⟨ze_vret (by decide +kernel) rfl, ?_⟩
  exact fun _ h => absurd h List.not_mem_nil
theorem vX12_readLoan {l : Launch} {G : GT} {d : Nat} {av : List Value} {Q : Po} {σ : Mm} (cs : List (Nat × List Nat)) (k : Nat) (h : vc l G d mX12_readLoan TX12_readLoan Q cs k TX12_readLoan (lv_args 0 av) [] σ) (hlen : (lg_sl av).length ≤ mX12_readLoan.2.2.1 := by exact Nat.le_of_ble_eq_true rfl) : MW l G d mX12_readLoan av σ Q := mw_vc TX12_readLoan_ok mc_X12_readLoan rfl hlen cs k rfl h
theorem wX12_readLoan {l : Launch} {G : GT} {d : Nat} {Q : Po} {pc : Nat} {lv : Lv} {st : List Value} {σ : Mm} (cs : List (Nat × List Nat)) (k : Nat) (h : vc l G d mX12_readLoan TX12_readLoan Q cs k (drp TX12_readLoan pc) lv st σ) (hpc : hdp (drp TX12_readLoan pc) = pc := by rfl) : Wp l G d mX12_readLoan pc lv st σ Q := wp_vc TX12_readLoan_ok cs k hpc h
def TX12_deedClause : List In := [(0, 1, zt_aload 0), (1, 4, zt_callVF mX12_look 0 20), (4, 6, zt_ic 112), (6, 9, zt_icmp_ne 18), (9, 10, zt_aload 0), (10, 13, zt_getI 20 15), (13, 15, zt_ic 24), (15, 18, zt_icmp_ne 23), (18, 19, zt_aload 0), (19, 22, zt_callVF mX12_fails 0 20), (22, 23, zt_vret), (23, 24, zt_aload 0), (24, 25, zt_dup), (25, 28, zt_getI 20 3), (28, 29, zt_ic 1), (29, 30, zt_iadd), (30, 33, zt_putI 20 3), (33, 34, zt_ic 0), (34, 35, zt_istoreF 1), (35, 36, zt_iload 1), (36, 37, zt_ic 3), (37, 40, zt_icmp_ge 60), (40, 41, zt_aload 0), (41, 44, zt_getL 20 9), (44, 45, zt_ic 3), (45, 46, zt_aload 0), (46, 49, zt_getI 20 15), (49, 50, zt_imul), (50, 51, zt_iload 1), (51, 52, zt_iadd), (52, 53, zt_ic 0), (53, 54, zt_iastoreF), (54, 57, zt_iincF 1 1), (57, 60, zt_goto 35), (60, 61, zt_aload 0), (61, 62, zt_dup), (62, 65, zt_getI 20 15), (65, 66, zt_ic 1), (66, 67, zt_iadd), (67, 70, zt_putI 20 15), (70, 71, zt_aload 0), (71, 72, zt_aload 0), (72, 75, zt_getL 20 9), (75, 76, zt_ic 3), (76, 77, zt_aload 0), (77, 80, zt_getI 20 15), (80, 81, zt_imul), (81, 82, zt_ic 3), (82, 83, zt_isub), (83, 84, zt_ic 3), (84, 86, zt_lds 213), (86, 89, zt_callVF mX12_items 4 20), (89, 90, zt_vret)]
theorem TX12_deedClause_ok : ∀ i ∈ TX12_deedClause, Ent mX12_deedClause i := by
  refine List.forall_mem_cons.mpr ⟨ze_aload_n (k := 0) (by decide +kernel) rfl, ?_⟩
  refine List.forall_mem_cons.mpr ⟨ze_callVF (idx := 107) (by decide +kernel) ml_X12_107 mv_X12_look rfl, ?_⟩
  refine List.forall_mem_cons.mpr ⟨ze_bipush (n := 112) (by decide +kernel) (by decide), ?_⟩
  refine List.forall_mem_cons.mpr ⟨ze_icmp_ne (off := 12) (by decide +kernel) (by decide), ?_⟩
  refine List.forall_mem_cons.mpr ⟨ze_aload_n (k := 0) (by decide +kernel) rfl, ?_⟩
  refine List.forall_mem_cons.mpr ⟨ze_getI (by decide +kernel) fl_X12_175 rfl, ?_⟩
  refine List.forall_mem_cons.mpr ⟨ze_bipush (n := 24) (by decide +kernel) (by decide), ?_⟩
  refine List.forall_mem_cons.mpr ⟨ze_icmp_ne (off := 8) (by decide +kernel) (by decide), ?_⟩
  refine List.forall_mem_cons.mpr ⟨ze_aload_n (k := 0) (by decide +kernel) rfl, ?_⟩
  refine List.forall_mem_cons.mpr ⟨ze_callVF (idx := 114) (by decide +kernel) ml_X12_114 mv_X12_fails rfl, ?_⟩
  refine List.forall_mem_cons.mpr ⟨ze_vret (by decide +kernel) rfl, ?_⟩
  refine List.forall_mem_cons.mpr ⟨ze_aload_n (k := 0) (by decide +kernel) rfl, ?_⟩
  refine List.forall_mem_cons.mpr ⟨ze_dup (by decide +kernel), ?_⟩
  refine List.forall_mem_cons.mpr ⟨ze_getI (by decide +kernel) fl_X12_97 rfl, ?_⟩
  refine List.forall_mem_cons.mpr ⟨ze_iconst (n := 1) (by decide +kernel) (by decide), ?_⟩
  refine List.forall_mem_cons.mpr ⟨ze_iadd (by decide +kernel), ?_⟩
  refine List.forall_mem_cons.mpr ⟨ze_putI (by decide +kernel) fl_X12_97 ⟨_, _, _, rfl, rfl, by decide +kernel⟩ rfl, ?_⟩
  refine List.forall_mem_cons.mpr ⟨ze_iconst (n := 0) (by decide +kernel) (by decide), ?_⟩
  refine List.forall_mem_cons.mpr ⟨ze_istoreF_n (k := 1) (by decide +kernel) rfl (by decide), ?_⟩
  refine List.forall_mem_cons.mpr ⟨ze_iload_n (k := 1) (by decide +kernel) rfl, ?_⟩
  refine List.forall_mem_cons.mpr ⟨ze_iconst (n := 3) (by decide +kernel) (by decide), ?_⟩
  refine List.forall_mem_cons.mpr ⟨ze_icmp_ge (off := 23) (by decide +kernel) (by decide), ?_⟩
  refine List.forall_mem_cons.mpr ⟨ze_aload_n (k := 0) (by decide +kernel) rfl, ?_⟩
  refine List.forall_mem_cons.mpr ⟨ze_getL (by decide +kernel) fl_X12_26 rfl (by decide), ?_⟩
  refine List.forall_mem_cons.mpr ⟨ze_iconst (n := 3) (by decide +kernel) (by decide), ?_⟩
  refine List.forall_mem_cons.mpr ⟨ze_aload_n (k := 0) (by decide +kernel) rfl, ?_⟩
  refine List.forall_mem_cons.mpr ⟨ze_getI (by decide +kernel) fl_X12_175 rfl, ?_⟩
  refine List.forall_mem_cons.mpr ⟨ze_imul (by decide +kernel), ?_⟩
  refine List.forall_mem_cons.mpr ⟨ze_iload_n (k := 1) (by decide +kernel) rfl, ?_⟩
  refine List.forall_mem_cons.mpr ⟨ze_iadd (by decide +kernel), ?_⟩
  refine List.forall_mem_cons.mpr ⟨ze_iconst (n := 0) (by decide +kernel) (by decide), ?_⟩
  refine List.forall_mem_cons.mpr ⟨ze_iastoreF (by decide +kernel), ?_⟩
  refine List.forall_mem_cons.mpr ⟨ze_iincF (n := 1) (by decide +kernel) (by decide) (by decide), ?_⟩
  refine List.forall_mem_cons.mpr ⟨ze_goto (off := -22) (by decide +kernel) (by decide), ?_⟩
  refine List.forall_mem_cons.mpr ⟨ze_aload_n (k := 0) (by decide +kernel) rfl, ?_⟩
  refine List.forall_mem_cons.mpr ⟨ze_dup (by decide +kernel), ?_⟩
  refine List.forall_mem_cons.mpr ⟨ze_getI (by decide +kernel) fl_X12_175 rfl, ?_⟩
  refine List.forall_mem_cons.mpr ⟨ze_iconst (n := 1) (by decide +kernel) (by decide), ?_⟩
  refine List.forall_mem_cons.mpr ⟨ze_iadd (by decide +kernel), ?_⟩
  refine List.forall_mem_cons.mpr ⟨ze_putI (by decide +kernel) fl_X12_175 ⟨_, _, _, rfl, rfl, by decide +kernel⟩ rfl, ?_⟩
  refine List.forall_mem_cons.mpr ⟨ze_aload_n (k := 0) (by decide +kernel) rfl, ?_⟩
  refine List.forall_mem_cons.mpr ⟨ze_aload_n (k := 0) (by decide +kernel) rfl, ?_⟩
  refine List.forall_mem_cons.mpr ⟨ze_getL (by decide +kernel) fl_X12_26 rfl (by decide), ?_⟩
  refine List.forall_mem_cons.mpr ⟨ze_iconst (n := 3) (by decide +kernel) (by decide), ?_⟩
  refine List.forall_mem_cons.mpr ⟨ze_aload_n (k := 0) (by decide +kernel) rfl, ?_⟩
  refine List.forall_mem_cons.mpr ⟨ze_getI (by decide +kernel) fl_X12_175 rfl, ?_⟩
  refine List.forall_mem_cons.mpr ⟨ze_imul (by decide +kernel), ?_⟩
  refine List.forall_mem_cons.mpr ⟨ze_iconst (n := 3) (by decide +kernel) (by decide), ?_⟩
  refine List.forall_mem_cons.mpr ⟨ze_isub (by decide +kernel), ?_⟩
  refine List.forall_mem_cons.mpr ⟨ze_iconst (n := 3) (by decide +kernel) (by decide), ?_⟩
  refine List.forall_mem_cons.mpr ⟨ze_lds (a := 213) (by decide +kernel) (by decide) rfl, ?_⟩
  refine List.forall_mem_cons.mpr ⟨ze_callVF (idx := 160) (by decide +kernel) ml_X12_160 mv_X12_items rfl, ?_⟩
  refine List.forall_mem_cons.mpr ⟨ze_vret (by decide +kernel) rfl, ?_⟩
  exact fun _ h => absurd h List.not_mem_nil
theorem vX12_deedClause {l : Launch} {G : GT} {d : Nat} {av : List Value} {Q : Po} {σ : Mm} (cs : List (Nat × List Nat)) (k : Nat) (h : vc l G d mX12_deedClause TX12_deedClause Q cs k TX12_deedClause (lv_args 0 av) [] σ) (hlen : (lg_sl av).length ≤ mX12_deedClause.2.2.1 := by exact Nat.le_of_ble_eq_true rfl) : MW l G d mX12_deedClause av σ Q := mw_vc TX12_deedClause_ok mc_X12_deedClause rfl hlen cs k rfl h
theorem wX12_deedClause {l : Launch} {G : GT} {d : Nat} {Q : Po} {pc : Nat} {lv : Lv} {st : List Value} {σ : Mm} (cs : List (Nat × List Nat)) (k : Nat) (h : vc l G d mX12_deedClause TX12_deedClause Q cs k (drp TX12_deedClause pc) lv st σ) (hpc : hdp (drp TX12_deedClause pc) = pc := by rfl) : Wp l G d mX12_deedClause pc lv st σ Q := wp_vc TX12_deedClause_ok cs k hpc h
def TX12_readPolicy : List In := [(0, 1, zt_aload 0), (1, 2, zt_ic 0), (2, 5, zt_putI 20 15), (5, 6, zt_aload 0), (6, 9, zt_callVF mX12_deedClause 0 20), (9, 10, zt_aload 0), (10, 13, zt_getI 20 4), (13, 14, zt_ic (-1)), (14, 17, zt_icmp_ne 43), (17, 18, zt_aload 0), (18, 21, zt_callVF mX12_look 0 20), (21, 23, zt_ic 59), (23, 26, zt_icmp_ne 43), (26, 27, zt_aload 0), (27, 28, zt_dup), (28, 31, zt_getI 20 3), (31, 32, zt_ic 1), (32, 33, zt_iadd), (33, 36, zt_putI 20 3), (36, 37, zt_aload 0), (37, 40, zt_callVF mX12_deedClause 0 20), (40, 43, zt_goto 9), (43, 44, zt_aload 0), (44, 47, zt_getI 20 4), (47, 48, zt_ic (-1)), (48, 51, zt_icmp_ne 63), (51, 52, zt_aload 0), (52, 55, zt_callVF mX12_look 0 20), (55, 56, zt_ic (-1)), (56, 59, zt_icmp_eq 63), (59, 60, zt_aload 0), (60, 63, zt_callVF mX12_fails 0 20), (63, 64, zt_vret)]
theorem TX12_readPolicy_ok : ∀ i ∈ TX12_readPolicy, Ent mX12_readPolicy i := by
  refine List.forall_mem_cons.mpr ⟨ze_aload_n (k := 0) (by decide +kernel) rfl, ?_⟩
  refine List.forall_mem_cons.mpr ⟨ze_iconst (n := 0) (by decide +kernel) (by decide), ?_⟩
  refine List.forall_mem_cons.mpr ⟨ze_putI (by decide +kernel) fl_X12_175 ⟨_, _, _, rfl, rfl, by decide +kernel⟩ rfl, ?_⟩
  refine List.forall_mem_cons.mpr ⟨ze_aload_n (k := 0) (by decide +kernel) rfl, ?_⟩
  refine List.forall_mem_cons.mpr ⟨ze_callVF (idx := 180) (by decide +kernel) ml_X12_180 mv_X12_deedClause rfl, ?_⟩
  refine List.forall_mem_cons.mpr ⟨ze_aload_n (k := 0) (by decide +kernel) rfl, ?_⟩
  refine List.forall_mem_cons.mpr ⟨ze_getI (by decide +kernel) fl_X12_104 rfl, ?_⟩
  refine List.forall_mem_cons.mpr ⟨ze_iconst (n := -1) (by decide +kernel) (by decide), ?_⟩
  refine List.forall_mem_cons.mpr ⟨ze_icmp_ne (off := 29) (by decide +kernel) (by decide), ?_⟩
  refine List.forall_mem_cons.mpr ⟨ze_aload_n (k := 0) (by decide +kernel) rfl, ?_⟩
  refine List.forall_mem_cons.mpr ⟨ze_callVF (idx := 107) (by decide +kernel) ml_X12_107 mv_X12_look rfl, ?_⟩
  refine List.forall_mem_cons.mpr ⟨ze_bipush (n := 59) (by decide +kernel) (by decide), ?_⟩
  refine List.forall_mem_cons.mpr ⟨ze_icmp_ne (off := 20) (by decide +kernel) (by decide), ?_⟩
  refine List.forall_mem_cons.mpr ⟨ze_aload_n (k := 0) (by decide +kernel) rfl, ?_⟩
  refine List.forall_mem_cons.mpr ⟨ze_dup (by decide +kernel), ?_⟩
  refine List.forall_mem_cons.mpr ⟨ze_getI (by decide +kernel) fl_X12_97 rfl, ?_⟩
  refine List.forall_mem_cons.mpr ⟨ze_iconst (n := 1) (by decide +kernel) (by decide), ?_⟩
  refine List.forall_mem_cons.mpr ⟨ze_iadd (by decide +kernel), ?_⟩
  refine List.forall_mem_cons.mpr ⟨ze_putI (by decide +kernel) fl_X12_97 ⟨_, _, _, rfl, rfl, by decide +kernel⟩ rfl, ?_⟩
  refine List.forall_mem_cons.mpr ⟨ze_aload_n (k := 0) (by decide +kernel) rfl, ?_⟩
  refine List.forall_mem_cons.mpr ⟨ze_callVF (idx := 180) (by decide +kernel) ml_X12_180 mv_X12_deedClause rfl, ?_⟩
  refine List.forall_mem_cons.mpr ⟨ze_goto (off := -31) (by decide +kernel) (by decide), ?_⟩
  refine List.forall_mem_cons.mpr ⟨ze_aload_n (k := 0) (by decide +kernel) rfl, ?_⟩
  refine List.forall_mem_cons.mpr ⟨ze_getI (by decide +kernel) fl_X12_104 rfl, ?_⟩
  refine List.forall_mem_cons.mpr ⟨ze_iconst (n := -1) (by decide +kernel) (by decide), ?_⟩
  refine List.forall_mem_cons.mpr ⟨ze_icmp_ne (off := 15) (by decide +kernel) (by decide), ?_⟩
  refine List.forall_mem_cons.mpr ⟨ze_aload_n (k := 0) (by decide +kernel) rfl, ?_⟩
  refine List.forall_mem_cons.mpr ⟨ze_callVF (idx := 107) (by decide +kernel) ml_X12_107 mv_X12_look rfl, ?_⟩
  refine List.forall_mem_cons.mpr ⟨ze_iconst (n := -1) (by decide +kernel) (by decide), ?_⟩
  refine List.forall_mem_cons.mpr ⟨ze_icmp_eq (off := 7) (by decide +kernel) (by decide), ?_⟩
  refine List.forall_mem_cons.mpr ⟨ze_aload_n (k := 0) (by decide +kernel) rfl, ?_⟩
  refine List.forall_mem_cons.mpr ⟨ze_callVF (idx := 114) (by decide +kernel) ml_X12_114 mv_X12_fails rfl, ?_⟩
  refine List.forall_mem_cons.mpr ⟨ze_vret (by decide +kernel) rfl, ?_⟩
  exact fun _ h => absurd h List.not_mem_nil
theorem vX12_readPolicy {l : Launch} {G : GT} {d : Nat} {av : List Value} {Q : Po} {σ : Mm} (cs : List (Nat × List Nat)) (k : Nat) (h : vc l G d mX12_readPolicy TX12_readPolicy Q cs k TX12_readPolicy (lv_args 0 av) [] σ) (hlen : (lg_sl av).length ≤ mX12_readPolicy.2.2.1 := by exact Nat.le_of_ble_eq_true rfl) : MW l G d mX12_readPolicy av σ Q := mw_vc TX12_readPolicy_ok mc_X12_readPolicy rfl hlen cs k rfl h
theorem wX12_readPolicy {l : Launch} {G : GT} {d : Nat} {Q : Po} {pc : Nat} {lv : Lv} {st : List Value} {σ : Mm} (cs : List (Nat × List Nat)) (k : Nat) (h : vc l G d mX12_readPolicy TX12_readPolicy Q cs k (drp TX12_readPolicy pc) lv st σ) (hpc : hdp (drp TX12_readPolicy pc) = pc := by rfl) : Wp l G d mX12_readPolicy pc lv st σ Q := wp_vc TX12_readPolicy_ok cs k hpc h
def TX12_numbersOf : List In := [(0, 1, zt_iload 0), (1, 2, zt_ic 5), (2, 5, zt_icmp_ne 9), (5, 6, zt_ic 2), (6, 9, zt_goto 20), (9, 10, zt_iload 0), (10, 12, zt_ic 6), (12, 15, zt_icmp_ne 19), (15, 16, zt_ic 3), (16, 19, zt_goto 20), (19, 20, zt_ic 0), (20, 21, zt_iret)]
theorem TX12_numbersOf_ok : ∀ i ∈ TX12_numbersOf, Ent mX12_numbersOf i := by
  refine List.forall_mem_cons.mpr ⟨ze_iload_n (k := 0) (by decide +kernel) rfl, ?_⟩
  refine List.forall_mem_cons.mpr ⟨ze_iconst (n := 5) (by decide +kernel) (by decide), ?_⟩
  refine List.forall_mem_cons.mpr ⟨ze_icmp_ne (off := 7) (by decide +kernel) (by decide), ?_⟩
  refine List.forall_mem_cons.mpr ⟨ze_iconst (n := 2) (by decide +kernel) (by decide), ?_⟩
  refine List.forall_mem_cons.mpr ⟨ze_goto (off := 14) (by decide +kernel) (by decide), ?_⟩
  refine List.forall_mem_cons.mpr ⟨ze_iload_n (k := 0) (by decide +kernel) rfl, ?_⟩
  refine List.forall_mem_cons.mpr ⟨ze_bipush (n := 6) (by decide +kernel) (by decide), ?_⟩
  refine List.forall_mem_cons.mpr ⟨ze_icmp_ne (off := 7) (by decide +kernel) (by decide), ?_⟩
  refine List.forall_mem_cons.mpr ⟨ze_iconst (n := 3) (by decide +kernel) (by decide), ?_⟩
  refine List.forall_mem_cons.mpr ⟨ze_goto (off := 4) (by decide +kernel) (by decide), ?_⟩
  refine List.forall_mem_cons.mpr ⟨ze_iconst (n := 0) (by decide +kernel) (by decide), ?_⟩
  refine List.forall_mem_cons.mpr ⟨ze_iret (by decide +kernel) rfl, ?_⟩
  exact fun _ h => absurd h List.not_mem_nil
theorem vX12_numbersOf {l : Launch} {G : GT} {d : Nat} {av : List Value} {Q : Po} {σ : Mm} (cs : List (Nat × List Nat)) (k : Nat) (h : vc l G d mX12_numbersOf TX12_numbersOf Q cs k TX12_numbersOf (lv_args 0 av) [] σ) (hlen : (lg_sl av).length ≤ mX12_numbersOf.2.2.1 := by exact Nat.le_of_ble_eq_true rfl) : MW l G d mX12_numbersOf av σ Q := mw_vc TX12_numbersOf_ok mc_X12_numbersOf rfl hlen cs k rfl h
theorem wX12_numbersOf {l : Launch} {G : GT} {d : Nat} {Q : Po} {pc : Nat} {lv : Lv} {st : List Value} {σ : Mm} (cs : List (Nat × List Nat)) (k : Nat) (h : vc l G d mX12_numbersOf TX12_numbersOf Q cs k (drp TX12_numbersOf pc) lv st σ) (hpc : hdp (drp TX12_numbersOf pc) = pc := by rfl) : Wp l G d mX12_numbersOf pc lv st σ Q := wp_vc TX12_numbersOf_ok cs k hpc h
def TX12_readStep : List In := [(0, 1, zt_ic 4), (1, 3, zt_ic 64), (3, 4, zt_iload 1), (4, 5, zt_iadd), (5, 6, zt_imul), (6, 7, zt_istoreF 2), (7, 9, zt_lds 214), (9, 10, zt_aload 0), (10, 13, zt_callVF mX12_look 0 20), (13, 16, zt_callSF mX12_spotOf 2), (16, 17, zt_istoreF 3), (17, 18, zt_iload 3), (18, 19, zt_ic (-1)), (19, 22, zt_icmp_ne 27), (22, 23, zt_aload 0), (23, 26, zt_callVF mX12_fails 0 20), (26, 27, zt_vret), (27, 28, zt_aload 0), (28, 29, zt_dup), (29, 32, zt_getI 20 3), (32, 33, zt_ic 1), (33, 34, zt_iadd), (34, 37, zt_putI 20 3), (37, 38, zt_aload 0), (38, 41, zt_getL 20 11), (41, 42, zt_iload 2), (42, 43, zt_iload 3), (43, 44, zt_iastoreF), (44, 45, zt_ic 0), (45, 47, zt_istoreF 4), (47, 49, zt_iload 4), (49, 50, zt_ic 3), (50, 53, zt_icmp_ge 140), (53, 54, zt_aload 0), (54, 57, zt_getL 20 11), (57, 58, zt_iload 2), (58, 59, zt_ic 1), (59, 60, zt_iadd), (60, 62, zt_iload 4), (62, 63, zt_iadd), (63, 64, zt_ic (-1)), (64, 65, zt_iastoreF), (65, 67, zt_iload 4), (67, 68, zt_iload 3), (68, 71, zt_callSF mX12_numbersOf 1), (71, 74, zt_icmp_ge 134), (74, 75, zt_aload 0), (75, 78, zt_getI 20 4), (78, 79, zt_ic (-1)), (79, 82, zt_icmp_eq 85), (82, 85, zt_goto 134), (85, 87, zt_iload 4), (87, 90, zt_if_le 104), (90, 91, zt_aload 0), (91, 94, zt_callVF mX12_look 0 20), (94, 96, zt_ic 44), (96, 99, zt_icmp_eq 104), (99, 100, zt_aload 0), (100, 103, zt_callVF mX12_fails 0 20), (103, 104, zt_vret), (104, 106, zt_iload 4), (106, 109, zt_if_le 119), (109, 110, zt_aload 0), (110, 111, zt_dup), (111, 114, zt_getI 20 3), (114, 115, zt_ic 1), (115, 116, zt_iadd), (116, 119, zt_putI 20 3), (119, 120, zt_aload 0), (120, 123, zt_getL 20 11), (123, 124, zt_iload 2), (124, 125, zt_ic 1), (125, 126, zt_iadd), (126, 128, zt_iload 4), (128, 129, zt_iadd), (129, 130, zt_aload 0), (130, 133, zt_callVF mX12_number 0 20), (133, 134, zt_iastoreF), (134, 137, zt_iincF 4 1), (137, 140, zt_goto 47), (140, 141, zt_vret)]
theorem TX12_readStep_ok : ∀ i ∈ TX12_readStep, Ent mX12_readStep i := by
  refine List.forall_mem_cons.mpr ⟨ze_iconst (n := 4) (by decide +kernel) (by decide), ?_⟩
  refine List.forall_mem_cons.mpr ⟨ze_bipush (n := 64) (by decide +kernel) (by decide), ?_⟩
  refine List.forall_mem_cons.mpr ⟨ze_iload_n (k := 1) (by decide +kernel) rfl, ?_⟩
  refine List.forall_mem_cons.mpr ⟨ze_iadd (by decide +kernel), ?_⟩
  refine List.forall_mem_cons.mpr ⟨ze_imul (by decide +kernel), ?_⟩
  refine List.forall_mem_cons.mpr ⟨ze_istoreF_n (k := 2) (by decide +kernel) rfl (by decide), ?_⟩
  refine List.forall_mem_cons.mpr ⟨ze_lds (a := 214) (by decide +kernel) (by decide) rfl, ?_⟩
  refine List.forall_mem_cons.mpr ⟨ze_aload_n (k := 0) (by decide +kernel) rfl, ?_⟩
  refine List.forall_mem_cons.mpr ⟨ze_callVF (idx := 107) (by decide +kernel) ml_X12_107 mv_X12_look rfl, ?_⟩
  refine List.forall_mem_cons.mpr ⟨ze_callSF (idx := 137) (by decide +kernel) ml_X12_137 ms_X12_spotOf, ?_⟩
  refine List.forall_mem_cons.mpr ⟨ze_istoreF_n (k := 3) (by decide +kernel) rfl (by decide), ?_⟩
  refine List.forall_mem_cons.mpr ⟨ze_iload_n (k := 3) (by decide +kernel) rfl, ?_⟩
  refine List.forall_mem_cons.mpr ⟨ze_iconst (n := -1) (by decide +kernel) (by decide), ?_⟩
  refine List.forall_mem_cons.mpr ⟨ze_icmp_ne (off := 8) (by decide +kernel) (by decide), ?_⟩
  refine List.forall_mem_cons.mpr ⟨ze_aload_n (k := 0) (by decide +kernel) rfl, ?_⟩
  refine List.forall_mem_cons.mpr ⟨ze_callVF (idx := 114) (by decide +kernel) ml_X12_114 mv_X12_fails rfl, ?_⟩
  refine List.forall_mem_cons.mpr ⟨ze_vret (by decide +kernel) rfl, ?_⟩
  refine List.forall_mem_cons.mpr ⟨ze_aload_n (k := 0) (by decide +kernel) rfl, ?_⟩
  refine List.forall_mem_cons.mpr ⟨ze_dup (by decide +kernel), ?_⟩
  refine List.forall_mem_cons.mpr ⟨ze_getI (by decide +kernel) fl_X12_97 rfl, ?_⟩
  refine List.forall_mem_cons.mpr ⟨ze_iconst (n := 1) (by decide +kernel) (by decide), ?_⟩
  refine List.forall_mem_cons.mpr ⟨ze_iadd (by decide +kernel), ?_⟩
  refine List.forall_mem_cons.mpr ⟨ze_putI (by decide +kernel) fl_X12_97 ⟨_, _, _, rfl, rfl, by decide +kernel⟩ rfl, ?_⟩
  refine List.forall_mem_cons.mpr ⟨ze_aload_n (k := 0) (by decide +kernel) rfl, ?_⟩
  refine List.forall_mem_cons.mpr ⟨ze_getL (by decide +kernel) fl_X12_32 rfl (by decide), ?_⟩
  refine List.forall_mem_cons.mpr ⟨ze_iload_n (k := 2) (by decide +kernel) rfl, ?_⟩
  refine List.forall_mem_cons.mpr ⟨ze_iload_n (k := 3) (by decide +kernel) rfl, ?_⟩
  refine List.forall_mem_cons.mpr ⟨ze_iastoreF (by decide +kernel), ?_⟩
  refine List.forall_mem_cons.mpr ⟨ze_iconst (n := 0) (by decide +kernel) (by decide), ?_⟩
  refine List.forall_mem_cons.mpr ⟨ze_istoreF (by decide +kernel) (by decide), ?_⟩
  refine List.forall_mem_cons.mpr ⟨ze_iload (by decide +kernel), ?_⟩
  refine List.forall_mem_cons.mpr ⟨ze_iconst (n := 3) (by decide +kernel) (by decide), ?_⟩
  refine List.forall_mem_cons.mpr ⟨ze_icmp_ge (off := 90) (by decide +kernel) (by decide), ?_⟩
  refine List.forall_mem_cons.mpr ⟨ze_aload_n (k := 0) (by decide +kernel) rfl, ?_⟩
  refine List.forall_mem_cons.mpr ⟨ze_getL (by decide +kernel) fl_X12_32 rfl (by decide), ?_⟩
  refine List.forall_mem_cons.mpr ⟨ze_iload_n (k := 2) (by decide +kernel) rfl, ?_⟩
  refine List.forall_mem_cons.mpr ⟨ze_iconst (n := 1) (by decide +kernel) (by decide), ?_⟩
  refine List.forall_mem_cons.mpr ⟨ze_iadd (by decide +kernel), ?_⟩
  refine List.forall_mem_cons.mpr ⟨ze_iload (by decide +kernel), ?_⟩
  refine List.forall_mem_cons.mpr ⟨ze_iadd (by decide +kernel), ?_⟩
  refine List.forall_mem_cons.mpr ⟨ze_iconst (n := -1) (by decide +kernel) (by decide), ?_⟩
  refine List.forall_mem_cons.mpr ⟨ze_iastoreF (by decide +kernel), ?_⟩
  refine List.forall_mem_cons.mpr ⟨ze_iload (by decide +kernel), ?_⟩
  refine List.forall_mem_cons.mpr ⟨ze_iload_n (k := 3) (by decide +kernel) rfl, ?_⟩
  refine List.forall_mem_cons.mpr ⟨ze_callSF (idx := 185) (by decide +kernel) ml_X12_185 ms_X12_numbersOf, ?_⟩
  refine List.forall_mem_cons.mpr ⟨ze_icmp_ge (off := 63) (by decide +kernel) (by decide), ?_⟩
  refine List.forall_mem_cons.mpr ⟨ze_aload_n (k := 0) (by decide +kernel) rfl, ?_⟩
  refine List.forall_mem_cons.mpr ⟨ze_getI (by decide +kernel) fl_X12_104 rfl, ?_⟩
  refine List.forall_mem_cons.mpr ⟨ze_iconst (n := -1) (by decide +kernel) (by decide), ?_⟩
  refine List.forall_mem_cons.mpr ⟨ze_icmp_eq (off := 6) (by decide +kernel) (by decide), ?_⟩
  refine List.forall_mem_cons.mpr ⟨ze_goto (off := 52) (by decide +kernel) (by decide), ?_⟩
  refine List.forall_mem_cons.mpr ⟨ze_iload (by decide +kernel), ?_⟩
  refine List.forall_mem_cons.mpr ⟨ze_if_le (off := 17) (by decide +kernel) (by decide), ?_⟩
  refine List.forall_mem_cons.mpr ⟨ze_aload_n (k := 0) (by decide +kernel) rfl, ?_⟩
  refine List.forall_mem_cons.mpr ⟨ze_callVF (idx := 107) (by decide +kernel) ml_X12_107 mv_X12_look rfl, ?_⟩
  refine List.forall_mem_cons.mpr ⟨ze_bipush (n := 44) (by decide +kernel) (by decide), ?_⟩
  refine List.forall_mem_cons.mpr ⟨ze_icmp_eq (off := 8) (by decide +kernel) (by decide), ?_⟩
  refine List.forall_mem_cons.mpr ⟨ze_aload_n (k := 0) (by decide +kernel) rfl, ?_⟩
  refine List.forall_mem_cons.mpr ⟨ze_callVF (idx := 114) (by decide +kernel) ml_X12_114 mv_X12_fails rfl, ?_⟩
  refine List.forall_mem_cons.mpr ⟨ze_vret (by decide +kernel) rfl, ?_⟩
  refine List.forall_mem_cons.mpr ⟨ze_iload (by decide +kernel), ?_⟩
  refine List.forall_mem_cons.mpr ⟨ze_if_le (off := 13) (by decide +kernel) (by decide), ?_⟩
  refine List.forall_mem_cons.mpr ⟨ze_aload_n (k := 0) (by decide +kernel) rfl, ?_⟩
  refine List.forall_mem_cons.mpr ⟨ze_dup (by decide +kernel), ?_⟩
  refine List.forall_mem_cons.mpr ⟨ze_getI (by decide +kernel) fl_X12_97 rfl, ?_⟩
  refine List.forall_mem_cons.mpr ⟨ze_iconst (n := 1) (by decide +kernel) (by decide), ?_⟩
  refine List.forall_mem_cons.mpr ⟨ze_iadd (by decide +kernel), ?_⟩
  refine List.forall_mem_cons.mpr ⟨ze_putI (by decide +kernel) fl_X12_97 ⟨_, _, _, rfl, rfl, by decide +kernel⟩ rfl, ?_⟩
  refine List.forall_mem_cons.mpr ⟨ze_aload_n (k := 0) (by decide +kernel) rfl, ?_⟩
  refine List.forall_mem_cons.mpr ⟨ze_getL (by decide +kernel) fl_X12_32 rfl (by decide), ?_⟩
  refine List.forall_mem_cons.mpr ⟨ze_iload_n (k := 2) (by decide +kernel) rfl, ?_⟩
  refine List.forall_mem_cons.mpr ⟨ze_iconst (n := 1) (by decide +kernel) (by decide), ?_⟩
  refine List.forall_mem_cons.mpr ⟨ze_iadd (by decide +kernel), ?_⟩
  refine List.forall_mem_cons.mpr ⟨ze_iload (by decide +kernel), ?_⟩
  refine List.forall_mem_cons.mpr ⟨ze_iadd (by decide +kernel), ?_⟩
  refine List.forall_mem_cons.mpr ⟨ze_aload_n (k := 0) (by decide +kernel) rfl, ?_⟩
  refine List.forall_mem_cons.mpr ⟨ze_callVF (idx := 141) (by decide +kernel) ml_X12_141 mv_X12_number rfl, ?_⟩
  refine List.forall_mem_cons.mpr ⟨ze_iastoreF (by decide +kernel), ?_⟩
  refine List.forall_mem_cons.mpr ⟨ze_iincF (n := 1) (by decide +kernel) (by decide) (by decide), ?_⟩
  refine List.forall_mem_cons.mpr ⟨ze_goto (off := -90) (by decide +kernel) (by decide), ?_⟩
  refine List.forall_mem_cons.mpr ⟨ze_vret (by decide +kernel) rfl, ?_⟩
  exact fun _ h => absurd h List.not_mem_nil
theorem vX12_readStep {l : Launch} {G : GT} {d : Nat} {av : List Value} {Q : Po} {σ : Mm} (cs : List (Nat × List Nat)) (k : Nat) (h : vc l G d mX12_readStep TX12_readStep Q cs k TX12_readStep (lv_args 0 av) [] σ) (hlen : (lg_sl av).length ≤ mX12_readStep.2.2.1 := by exact Nat.le_of_ble_eq_true rfl) : MW l G d mX12_readStep av σ Q := mw_vc TX12_readStep_ok mc_X12_readStep rfl hlen cs k rfl h
theorem wX12_readStep {l : Launch} {G : GT} {d : Nat} {Q : Po} {pc : Nat} {lv : Lv} {st : List Value} {σ : Mm} (cs : List (Nat × List Nat)) (k : Nat) (h : vc l G d mX12_readStep TX12_readStep Q cs k (drp TX12_readStep pc) lv st σ) (hpc : hdp (drp TX12_readStep pc) = pc := by rfl) : Wp l G d mX12_readStep pc lv st σ Q := wp_vc TX12_readStep_ok cs k hpc h
def TX12_readScript : List In := [(0, 1, zt_ic 0), (1, 2, zt_istoreF 1), (2, 3, zt_ic 1), (3, 4, zt_istoreF 2), (4, 5, zt_iload 2), (5, 8, zt_if_eq 72), (8, 9, zt_aload 0), (9, 10, zt_iload 1), (10, 13, zt_callVF mX12_readStep 1 20), (13, 14, zt_aload 0), (14, 17, zt_getI 20 4), (17, 18, zt_ic (-1)), (18, 21, zt_icmp_eq 22), (21, 22, zt_vret), (22, 25, zt_iincF 1 1), (25, 26, zt_aload 0), (26, 29, zt_callVF mX12_look 0 20), (29, 31, zt_ic 59), (31, 34, zt_icmp_ne 38), (34, 35, zt_ic 1), (35, 38, zt_goto 39), (38, 39, zt_ic 0), (39, 40, zt_istoreF 2), (40, 41, zt_iload 2), (41, 44, zt_if_eq 55), (44, 45, zt_iload 1), (45, 47, zt_ic 16), (47, 50, zt_icmp_ne 55), (50, 51, zt_aload 0), (51, 54, zt_callVF mX12_fails 0 20), (54, 55, zt_vret), (55, 56, zt_iload 2), (56, 59, zt_if_eq 4), (59, 60, zt_aload 0), (60, 61, zt_dup), (61, 64, zt_getI 20 3), (64, 65, zt_ic 1), (65, 66, zt_iadd), (66, 69, zt_putI 20 3), (69, 72, zt_goto 4), (72, 73, zt_aload 0), (73, 76, zt_getL 20 12), (76, 77, zt_ic 4), (77, 78, zt_iload 1), (78, 79, zt_iastoreF), (79, 80, zt_aload 0), (80, 83, zt_callVF mX12_look 0 20), (83, 84, zt_ic (-1)), (84, 87, zt_icmp_eq 91), (87, 88, zt_aload 0), (88, 91, zt_callVF mX12_fails 0 20), (91, 92, zt_vret)]
theorem TX12_readScript_ok : ∀ i ∈ TX12_readScript, Ent mX12_readScript i := by
  refine List.forall_mem_cons.mpr ⟨ze_iconst (n := 0) (by decide +kernel) (by decide), ?_⟩
  refine List.forall_mem_cons.mpr ⟨ze_istoreF_n (k := 1) (by decide +kernel) rfl (by decide), ?_⟩
  refine List.forall_mem_cons.mpr ⟨ze_iconst (n := 1) (by decide +kernel) (by decide), ?_⟩
  refine List.forall_mem_cons.mpr ⟨ze_istoreF_n (k := 2) (by decide +kernel) rfl (by decide), ?_⟩
  refine List.forall_mem_cons.mpr ⟨ze_iload_n (k := 2) (by decide +kernel) rfl, ?_⟩
  refine List.forall_mem_cons.mpr ⟨ze_if_eq (off := 67) (by decide +kernel) (by decide), ?_⟩
  refine List.forall_mem_cons.mpr ⟨ze_aload_n (k := 0) (by decide +kernel) rfl, ?_⟩
  refine List.forall_mem_cons.mpr ⟨ze_iload_n (k := 1) (by decide +kernel) rfl, ?_⟩
  refine List.forall_mem_cons.mpr ⟨ze_callVF (idx := 188) (by decide +kernel) ml_X12_188 mv_X12_readStep rfl, ?_⟩
  refine List.forall_mem_cons.mpr ⟨ze_aload_n (k := 0) (by decide +kernel) rfl, ?_⟩
  refine List.forall_mem_cons.mpr ⟨ze_getI (by decide +kernel) fl_X12_104 rfl, ?_⟩
  refine List.forall_mem_cons.mpr ⟨ze_iconst (n := -1) (by decide +kernel) (by decide), ?_⟩
  refine List.forall_mem_cons.mpr ⟨ze_icmp_eq (off := 4) (by decide +kernel) (by decide), ?_⟩
  refine List.forall_mem_cons.mpr ⟨ze_vret (by decide +kernel) rfl, ?_⟩
  refine List.forall_mem_cons.mpr ⟨ze_iincF (n := 1) (by decide +kernel) (by decide) (by decide), ?_⟩
  refine List.forall_mem_cons.mpr ⟨ze_aload_n (k := 0) (by decide +kernel) rfl, ?_⟩
  refine List.forall_mem_cons.mpr ⟨ze_callVF (idx := 107) (by decide +kernel) ml_X12_107 mv_X12_look rfl, ?_⟩
  refine List.forall_mem_cons.mpr ⟨ze_bipush (n := 59) (by decide +kernel) (by decide), ?_⟩
  refine List.forall_mem_cons.mpr ⟨ze_icmp_ne (off := 7) (by decide +kernel) (by decide), ?_⟩
  refine List.forall_mem_cons.mpr ⟨ze_iconst (n := 1) (by decide +kernel) (by decide), ?_⟩
  refine List.forall_mem_cons.mpr ⟨ze_goto (off := 4) (by decide +kernel) (by decide), ?_⟩
  refine List.forall_mem_cons.mpr ⟨ze_iconst (n := 0) (by decide +kernel) (by decide), ?_⟩
  refine List.forall_mem_cons.mpr ⟨ze_istoreF_n (k := 2) (by decide +kernel) rfl (by decide), ?_⟩
  refine List.forall_mem_cons.mpr ⟨ze_iload_n (k := 2) (by decide +kernel) rfl, ?_⟩
  refine List.forall_mem_cons.mpr ⟨ze_if_eq (off := 14) (by decide +kernel) (by decide), ?_⟩
  refine List.forall_mem_cons.mpr ⟨ze_iload_n (k := 1) (by decide +kernel) rfl, ?_⟩
  refine List.forall_mem_cons.mpr ⟨ze_bipush (n := 16) (by decide +kernel) (by decide), ?_⟩
  refine List.forall_mem_cons.mpr ⟨ze_icmp_ne (off := 8) (by decide +kernel) (by decide), ?_⟩
  refine List.forall_mem_cons.mpr ⟨ze_aload_n (k := 0) (by decide +kernel) rfl, ?_⟩
  refine List.forall_mem_cons.mpr ⟨ze_callVF (idx := 114) (by decide +kernel) ml_X12_114 mv_X12_fails rfl, ?_⟩
  refine List.forall_mem_cons.mpr ⟨ze_vret (by decide +kernel) rfl, ?_⟩
  refine List.forall_mem_cons.mpr ⟨ze_iload_n (k := 2) (by decide +kernel) rfl, ?_⟩
  refine List.forall_mem_cons.mpr ⟨ze_if_eq (off := -52) (by decide +kernel) (by decide), ?_⟩
  refine List.forall_mem_cons.mpr ⟨ze_aload_n (k := 0) (by decide +kernel) rfl, ?_⟩
  refine List.forall_mem_cons.mpr ⟨ze_dup (by decide +kernel), ?_⟩
  refine List.forall_mem_cons.mpr ⟨ze_getI (by decide +kernel) fl_X12_97 rfl, ?_⟩
  refine List.forall_mem_cons.mpr ⟨ze_iconst (n := 1) (by decide +kernel) (by decide), ?_⟩
  refine List.forall_mem_cons.mpr ⟨ze_iadd (by decide +kernel), ?_⟩
  refine List.forall_mem_cons.mpr ⟨ze_putI (by decide +kernel) fl_X12_97 ⟨_, _, _, rfl, rfl, by decide +kernel⟩ rfl, ?_⟩
  refine List.forall_mem_cons.mpr ⟨ze_goto (off := -65) (by decide +kernel) (by decide), ?_⟩
  refine List.forall_mem_cons.mpr ⟨ze_aload_n (k := 0) (by decide +kernel) rfl, ?_⟩
  refine List.forall_mem_cons.mpr ⟨ze_getL (by decide +kernel) fl_X12_35 rfl (by decide), ?_⟩
  refine List.forall_mem_cons.mpr ⟨ze_iconst (n := 4) (by decide +kernel) (by decide), ?_⟩
  refine List.forall_mem_cons.mpr ⟨ze_iload_n (k := 1) (by decide +kernel) rfl, ?_⟩
  refine List.forall_mem_cons.mpr ⟨ze_iastoreF (by decide +kernel), ?_⟩
  refine List.forall_mem_cons.mpr ⟨ze_aload_n (k := 0) (by decide +kernel) rfl, ?_⟩
  refine List.forall_mem_cons.mpr ⟨ze_callVF (idx := 107) (by decide +kernel) ml_X12_107 mv_X12_look rfl, ?_⟩
  refine List.forall_mem_cons.mpr ⟨ze_iconst (n := -1) (by decide +kernel) (by decide), ?_⟩
  refine List.forall_mem_cons.mpr ⟨ze_icmp_eq (off := 7) (by decide +kernel) (by decide), ?_⟩
  refine List.forall_mem_cons.mpr ⟨ze_aload_n (k := 0) (by decide +kernel) rfl, ?_⟩
  refine List.forall_mem_cons.mpr ⟨ze_callVF (idx := 114) (by decide +kernel) ml_X12_114 mv_X12_fails rfl, ?_⟩
  refine List.forall_mem_cons.mpr ⟨ze_vret (by decide +kernel) rfl, ?_⟩
  exact fun _ h => absurd h List.not_mem_nil
theorem vX12_readScript {l : Launch} {G : GT} {d : Nat} {av : List Value} {Q : Po} {σ : Mm} (cs : List (Nat × List Nat)) (k : Nat) (h : vc l G d mX12_readScript TX12_readScript Q cs k TX12_readScript (lv_args 0 av) [] σ) (hlen : (lg_sl av).length ≤ mX12_readScript.2.2.1 := by exact Nat.le_of_ble_eq_true rfl) : MW l G d mX12_readScript av σ Q := mw_vc TX12_readScript_ok mc_X12_readScript rfl hlen cs k rfl h
theorem wX12_readScript {l : Launch} {G : GT} {d : Nat} {Q : Po} {pc : Nat} {lv : Lv} {st : List Value} {σ : Mm} (cs : List (Nat × List Nat)) (k : Nat) (h : vc l G d mX12_readScript TX12_readScript Q cs k (drp TX12_readScript pc) lv st σ) (hpc : hdp (drp TX12_readScript pc) = pc := by rfl) : Wp l G d mX12_readScript pc lv st σ Q := wp_vc TX12_readScript_ok cs k hpc h
def TX12_fault : List In := [(0, 1, zt_aload 0), (1, 2, zt_ic 0), (2, 5, zt_putI 20 0), (5, 6, zt_iload 1), (6, 7, zt_i2l), (7, 8, zt_lc 0), (8, 11, zt_lc (2 : Int64)), (11, 14, zt_callSF mX12_isIn 3), (14, 17, zt_if_ne 20), (17, 19, zt_ic (-2)), (19, 20, zt_iret), (20, 21, zt_aload 0), (21, 22, zt_ic 0), (22, 25, zt_putI 20 3), (25, 26, zt_aload 0), (26, 27, zt_ic (-1)), (27, 30, zt_putI 20 4), (30, 31, zt_iload 1), (31, 34, zt_if_ne 41), (34, 35, zt_aload 0), (35, 38, zt_callVF mX12_readLoan 0 20), (38, 41, zt_goto 57), (41, 42, zt_iload 1), (42, 43, zt_ic 1), (43, 46, zt_icmp_ne 53), (46, 47, zt_aload 0), (47, 50, zt_callVF mX12_readScript 0 20), (50, 53, zt_goto 57), (53, 54, zt_aload 0), (54, 57, zt_callVF mX12_readPolicy 0 20), (57, 58, zt_aload 0), (58, 61, zt_getI 20 4), (61, 62, zt_iret)]
theorem TX12_fault_ok : ∀ i ∈ TX12_fault, Ent mX12_fault i := by
  refine List.forall_mem_cons.mpr ⟨ze_aload_n (k := 0) (by decide +kernel) rfl, ?_⟩
  refine List.forall_mem_cons.mpr ⟨ze_iconst (n := 0) (by decide +kernel) (by decide), ?_⟩
  refine List.forall_mem_cons.mpr ⟨ze_putI (by decide +kernel) fl_X12_82 ⟨_, _, _, rfl, rfl, by decide +kernel⟩ rfl, ?_⟩
  refine List.forall_mem_cons.mpr ⟨ze_iload_n (k := 1) (by decide +kernel) rfl, ?_⟩
  refine List.forall_mem_cons.mpr ⟨ze_i2l (by decide +kernel), ?_⟩
  refine List.forall_mem_cons.mpr ⟨ze_lconst (n := 0) (by decide +kernel) (by decide), ?_⟩
  refine List.forall_mem_cons.mpr ⟨ze_ldc2 (i := 191) (by decide +kernel) kc_X12_191, ?_⟩
  refine List.forall_mem_cons.mpr ⟨ze_callSF (idx := 148) (by decide +kernel) ml_X12_148 ms_X12_isIn, ?_⟩
  refine List.forall_mem_cons.mpr ⟨ze_if_ne (off := 6) (by decide +kernel) (by decide), ?_⟩
  refine List.forall_mem_cons.mpr ⟨ze_bipush (n := -2) (by decide +kernel) (by decide), ?_⟩
  refine List.forall_mem_cons.mpr ⟨ze_iret (by decide +kernel) rfl, ?_⟩
  refine List.forall_mem_cons.mpr ⟨ze_aload_n (k := 0) (by decide +kernel) rfl, ?_⟩
  refine List.forall_mem_cons.mpr ⟨ze_iconst (n := 0) (by decide +kernel) (by decide), ?_⟩
  refine List.forall_mem_cons.mpr ⟨ze_putI (by decide +kernel) fl_X12_97 ⟨_, _, _, rfl, rfl, by decide +kernel⟩ rfl, ?_⟩
  refine List.forall_mem_cons.mpr ⟨ze_aload_n (k := 0) (by decide +kernel) rfl, ?_⟩
  refine List.forall_mem_cons.mpr ⟨ze_iconst (n := -1) (by decide +kernel) (by decide), ?_⟩
  refine List.forall_mem_cons.mpr ⟨ze_putI (by decide +kernel) fl_X12_104 ⟨_, _, _, rfl, rfl, by decide +kernel⟩ rfl, ?_⟩
  refine List.forall_mem_cons.mpr ⟨ze_iload_n (k := 1) (by decide +kernel) rfl, ?_⟩
  refine List.forall_mem_cons.mpr ⟨ze_if_ne (off := 10) (by decide +kernel) (by decide), ?_⟩
  refine List.forall_mem_cons.mpr ⟨ze_aload_n (k := 0) (by decide +kernel) rfl, ?_⟩
  refine List.forall_mem_cons.mpr ⟨ze_callVF (idx := 193) (by decide +kernel) ml_X12_193 mv_X12_readLoan rfl, ?_⟩
  refine List.forall_mem_cons.mpr ⟨ze_goto (off := 19) (by decide +kernel) (by decide), ?_⟩
  refine List.forall_mem_cons.mpr ⟨ze_iload_n (k := 1) (by decide +kernel) rfl, ?_⟩
  refine List.forall_mem_cons.mpr ⟨ze_iconst (n := 1) (by decide +kernel) (by decide), ?_⟩
  refine List.forall_mem_cons.mpr ⟨ze_icmp_ne (off := 10) (by decide +kernel) (by decide), ?_⟩
  refine List.forall_mem_cons.mpr ⟨ze_aload_n (k := 0) (by decide +kernel) rfl, ?_⟩
  refine List.forall_mem_cons.mpr ⟨ze_callVF (idx := 196) (by decide +kernel) ml_X12_196 mv_X12_readScript rfl, ?_⟩
  refine List.forall_mem_cons.mpr ⟨ze_goto (off := 7) (by decide +kernel) (by decide), ?_⟩
  refine List.forall_mem_cons.mpr ⟨ze_aload_n (k := 0) (by decide +kernel) rfl, ?_⟩
  refine List.forall_mem_cons.mpr ⟨ze_callVF (idx := 199) (by decide +kernel) ml_X12_199 mv_X12_readPolicy rfl, ?_⟩
  refine List.forall_mem_cons.mpr ⟨ze_aload_n (k := 0) (by decide +kernel) rfl, ?_⟩
  refine List.forall_mem_cons.mpr ⟨ze_getI (by decide +kernel) fl_X12_104 rfl, ?_⟩
  refine List.forall_mem_cons.mpr ⟨ze_iret (by decide +kernel) rfl, ?_⟩
  exact fun _ h => absurd h List.not_mem_nil
theorem vX12_fault {l : Launch} {G : GT} {d : Nat} {av : List Value} {Q : Po} {σ : Mm} (cs : List (Nat × List Nat)) (k : Nat) (h : vc l G d mX12_fault TX12_fault Q cs k TX12_fault (lv_args 0 av) [] σ) (hlen : (lg_sl av).length ≤ mX12_fault.2.2.1 := by exact Nat.le_of_ble_eq_true rfl) : MW l G d mX12_fault av σ Q := mw_vc TX12_fault_ok mc_X12_fault rfl hlen cs k rfl h
theorem wX12_fault {l : Launch} {G : GT} {d : Nat} {Q : Po} {pc : Nat} {lv : Lv} {st : List Value} {σ : Mm} (cs : List (Nat × List Nat)) (k : Nat) (h : vc l G d mX12_fault TX12_fault Q cs k (drp TX12_fault pc) lv st σ) (hpc : hdp (drp TX12_fault pc) = pc := by rfl) : Wp l G d mX12_fault pc lv st σ Q := wp_vc TX12_fault_ok cs k hpc h
def TX12_begins : List In := [(0, 1, zt_ic 0), (1, 2, zt_istoreF 1), (2, 3, zt_iload 1), (3, 5, zt_ic 14), (5, 8, zt_icmp_ge 26), (8, 9, zt_aload 0), (9, 12, zt_getL 20 6), (12, 13, zt_iload 1), (13, 14, zt_aload 0), (14, 17, zt_getL 20 5), (17, 18, zt_iload 1), (18, 19, zt_iald), (19, 20, zt_iastoreF), (20, 23, zt_iincF 1 1), (23, 26, zt_goto 2), (26, 27, zt_ic 0), (27, 28, zt_istoreF 1), (28, 29, zt_iload 1), (29, 32, zt_ic 494), (32, 35, zt_icmp_ge 48), (35, 36, zt_aload 0), (36, 39, zt_getL 20 20), (39, 40, zt_iload 1), (40, 41, zt_ic 0), (41, 42, zt_iastoreF), (42, 45, zt_iincF 1 1), (45, 48, zt_goto 28), (48, 49, zt_ic 0), (49, 50, zt_istoreF 1), (50, 51, zt_iload 1), (51, 54, zt_ic 144), (54, 57, zt_icmp_ge 73), (57, 58, zt_aload 0), (58, 61, zt_getL 20 20), (61, 63, zt_ic 25), (63, 64, zt_iload 1), (64, 65, zt_iadd), (65, 66, zt_ic (-1)), (66, 67, zt_iastoreF), (67, 70, zt_iincF 1 1), (70, 73, zt_goto 50), (73, 74, zt_aload 0), (74, 77, zt_getL 20 20), (77, 78, zt_ic 2), (78, 79, zt_aload 0), (79, 82, zt_getL 20 6), (82, 83, zt_ic 2), (83, 84, zt_iald), (84, 85, zt_iastoreF), (85, 86, zt_aload 0), (86, 89, zt_getL 20 20), (89, 90, zt_ic 3), (90, 91, zt_aload 0), (91, 94, zt_getL 20 6), (94, 96, zt_ic 11), (96, 97, zt_iald), (97, 98, zt_iastoreF), (98, 99, zt_aload 0), (99, 100, zt_ic 1), (100, 103, zt_putZ 20 17), (103, 104, zt_ic 0), (104, 105, zt_istoreF 1), (105, 106, zt_iload 1), (106, 107, zt_aload 0), (107, 110, zt_getI 20 13), (110, 113, zt_icmp_ge 162), (113, 114, zt_aload 0), (114, 117, zt_getL 20 7), (117, 118, zt_ic 2), (118, 119, zt_iload 1), (119, 120, zt_imul), (120, 121, zt_iald), (121, 122, zt_aload 0), (122, 125, zt_getL 20 6), (125, 126, zt_ic 1), (126, 127, zt_iald), (127, 130, zt_icmp_ge 156), (130, 131, zt_aload 0), (131, 134, zt_getL 20 20), (134, 136, zt_ic 12), (136, 137, zt_aload 0), (137, 140, zt_getL 20 7), (140, 141, zt_ic 2), (141, 142, zt_iload 1), (142, 143, zt_imul), (143, 144, zt_iald), (144, 145, zt_iadd), (145, 146, zt_aload 0), (146, 149, zt_getL 20 7), (149, 150, zt_ic 2), (150, 151, zt_iload 1), (151, 152, zt_imul), (152, 153, zt_ic 1), (153, 154, zt_iadd), (154, 155, zt_iald), (155, 156, zt_iastoreF), (156, 159, zt_iincF 1 1), (159, 162, zt_goto 105), (162, 163, zt_ic 0), (163, 164, zt_istoreF 1), (164, 165, zt_iload 1), (165, 166, zt_aload 0), (166, 169, zt_getI 20 14), (169, 172, zt_icmp_ge 242), (172, 173, zt_aload 0), (173, 174, zt_aload 0), (174, 177, zt_getL 20 8), (177, 178, zt_ic 3), (178, 179, zt_iload 1), (179, 180, zt_imul), (180, 181, zt_iald), (181, 182, zt_aload 0), (182, 185, zt_getL 20 8), (185, 186, zt_ic 3), (186, 187, zt_iload 1), (187, 188, zt_imul), (188, 189, zt_ic 1), (189, 190, zt_iadd), (190, 191, zt_iald), (191, 194, zt_callVF mX12_isNode 2 20), (194, 197, zt_if_eq 236), (197, 198, zt_aload 0), (198, 201, zt_getL 20 20), (201, 203, zt_ic 25), (203, 204, zt_aload 0), (204, 207, zt_getL 20 8), (207, 208, zt_ic 3), (208, 209, zt_iload 1), (209, 210, zt_imul), (210, 211, zt_iald), (211, 212, zt_aload 0), (212, 215, zt_getL 20 8), (215, 216, zt_ic 3), (216, 217, zt_iload 1), (217, 218, zt_imul), (218, 219, zt_ic 1), (219, 220, zt_iadd), (220, 221, zt_iald), (221, 224, zt_callSF mX12_node 2), (224, 225, zt_iadd), (225, 226, zt_aload 0), (226, 229, zt_getL 20 8), (229, 230, zt_ic 3), (230, 231, zt_iload 1), (231, 232, zt_imul), (232, 233, zt_ic 2), (233, 234, zt_iadd), (234, 235, zt_iald), (235, 236, zt_iastoreF), (236, 239, zt_iincF 1 1), (239, 242, zt_goto 164), (242, 243, zt_aload 0), (243, 244, zt_ic 0), (244, 247, zt_putI 20 25), (247, 248, zt_aload 0), (248, 249, zt_ic 0), (249, 252, zt_putZ 20 26), (252, 253, zt_vret)]
theorem TX12_begins_ok : ∀ i ∈ TX12_begins, Ent mX12_begins i := by
  refine List.forall_mem_cons.mpr ⟨ze_iconst (n := 0) (by decide +kernel) (by decide), ?_⟩
  refine List.forall_mem_cons.mpr ⟨ze_istoreF_n (k := 1) (by decide +kernel) rfl (by decide), ?_⟩
  refine List.forall_mem_cons.mpr ⟨ze_iload_n (k := 1) (by decide +kernel) rfl, ?_⟩
  refine List.forall_mem_cons.mpr ⟨ze_bipush (n := 14) (by decide +kernel) (by decide), ?_⟩
  refine List.forall_mem_cons.mpr ⟨ze_icmp_ge (off := 21) (by decide +kernel) (by decide), ?_⟩
  refine List.forall_mem_cons.mpr ⟨ze_aload_n (k := 0) (by decide +kernel) rfl, ?_⟩
  refine List.forall_mem_cons.mpr ⟨ze_getL (by decide +kernel) fl_X12_17 rfl (by decide), ?_⟩
  refine List.forall_mem_cons.mpr ⟨ze_iload_n (k := 1) (by decide +kernel) rfl, ?_⟩
  refine List.forall_mem_cons.mpr ⟨ze_aload_n (k := 0) (by decide +kernel) rfl, ?_⟩
  refine List.forall_mem_cons.mpr ⟨ze_getL (by decide +kernel) fl_X12_13 rfl (by decide), ?_⟩
  refine List.forall_mem_cons.mpr ⟨ze_iload_n (k := 1) (by decide +kernel) rfl, ?_⟩
  refine List.forall_mem_cons.mpr ⟨ze_iald (by decide +kernel), ?_⟩
  refine List.forall_mem_cons.mpr ⟨ze_iastoreF (by decide +kernel), ?_⟩
  refine List.forall_mem_cons.mpr ⟨ze_iincF (n := 1) (by decide +kernel) (by decide) (by decide), ?_⟩
  refine List.forall_mem_cons.mpr ⟨ze_goto (off := -21) (by decide +kernel) (by decide), ?_⟩
  refine List.forall_mem_cons.mpr ⟨ze_iconst (n := 0) (by decide +kernel) (by decide), ?_⟩
  refine List.forall_mem_cons.mpr ⟨ze_istoreF_n (k := 1) (by decide +kernel) rfl (by decide), ?_⟩
  refine List.forall_mem_cons.mpr ⟨ze_iload_n (k := 1) (by decide +kernel) rfl, ?_⟩
  refine List.forall_mem_cons.mpr ⟨ze_sipush (n := 494) (by decide +kernel) (by decide), ?_⟩
  refine List.forall_mem_cons.mpr ⟨ze_icmp_ge (off := 16) (by decide +kernel) (by decide), ?_⟩
  refine List.forall_mem_cons.mpr ⟨ze_aload_n (k := 0) (by decide +kernel) rfl, ?_⟩
  refine List.forall_mem_cons.mpr ⟨ze_getL (by decide +kernel) fl_X12_38 rfl (by decide), ?_⟩
  refine List.forall_mem_cons.mpr ⟨ze_iload_n (k := 1) (by decide +kernel) rfl, ?_⟩
  refine List.forall_mem_cons.mpr ⟨ze_iconst (n := 0) (by decide +kernel) (by decide), ?_⟩
  refine List.forall_mem_cons.mpr ⟨ze_iastoreF (by decide +kernel), ?_⟩
  refine List.forall_mem_cons.mpr ⟨ze_iincF (n := 1) (by decide +kernel) (by decide) (by decide), ?_⟩
  refine List.forall_mem_cons.mpr ⟨ze_goto (off := -17) (by decide +kernel) (by decide), ?_⟩
  refine List.forall_mem_cons.mpr ⟨ze_iconst (n := 0) (by decide +kernel) (by decide), ?_⟩
  refine List.forall_mem_cons.mpr ⟨ze_istoreF_n (k := 1) (by decide +kernel) rfl (by decide), ?_⟩
  refine List.forall_mem_cons.mpr ⟨ze_iload_n (k := 1) (by decide +kernel) rfl, ?_⟩
  refine List.forall_mem_cons.mpr ⟨ze_sipush (n := 144) (by decide +kernel) (by decide), ?_⟩
  refine List.forall_mem_cons.mpr ⟨ze_icmp_ge (off := 19) (by decide +kernel) (by decide), ?_⟩
  refine List.forall_mem_cons.mpr ⟨ze_aload_n (k := 0) (by decide +kernel) rfl, ?_⟩
  refine List.forall_mem_cons.mpr ⟨ze_getL (by decide +kernel) fl_X12_38 rfl (by decide), ?_⟩
  refine List.forall_mem_cons.mpr ⟨ze_bipush (n := 25) (by decide +kernel) (by decide), ?_⟩
  refine List.forall_mem_cons.mpr ⟨ze_iload_n (k := 1) (by decide +kernel) rfl, ?_⟩
  refine List.forall_mem_cons.mpr ⟨ze_iadd (by decide +kernel), ?_⟩
  refine List.forall_mem_cons.mpr ⟨ze_iconst (n := -1) (by decide +kernel) (by decide), ?_⟩
  refine List.forall_mem_cons.mpr ⟨ze_iastoreF (by decide +kernel), ?_⟩
  refine List.forall_mem_cons.mpr ⟨ze_iincF (n := 1) (by decide +kernel) (by decide) (by decide), ?_⟩
  refine List.forall_mem_cons.mpr ⟨ze_goto (off := -20) (by decide +kernel) (by decide), ?_⟩
  refine List.forall_mem_cons.mpr ⟨ze_aload_n (k := 0) (by decide +kernel) rfl, ?_⟩
  refine List.forall_mem_cons.mpr ⟨ze_getL (by decide +kernel) fl_X12_38 rfl (by decide), ?_⟩
  refine List.forall_mem_cons.mpr ⟨ze_iconst (n := 2) (by decide +kernel) (by decide), ?_⟩
  refine List.forall_mem_cons.mpr ⟨ze_aload_n (k := 0) (by decide +kernel) rfl, ?_⟩
  refine List.forall_mem_cons.mpr ⟨ze_getL (by decide +kernel) fl_X12_17 rfl (by decide), ?_⟩
  refine List.forall_mem_cons.mpr ⟨ze_iconst (n := 2) (by decide +kernel) (by decide), ?_⟩
  refine List.forall_mem_cons.mpr ⟨ze_iald (by decide +kernel), ?_⟩
  refine List.forall_mem_cons.mpr ⟨ze_iastoreF (by decide +kernel), ?_⟩
  refine List.forall_mem_cons.mpr ⟨ze_aload_n (k := 0) (by decide +kernel) rfl, ?_⟩
  refine List.forall_mem_cons.mpr ⟨ze_getL (by decide +kernel) fl_X12_38 rfl (by decide), ?_⟩
  refine List.forall_mem_cons.mpr ⟨ze_iconst (n := 3) (by decide +kernel) (by decide), ?_⟩
  refine List.forall_mem_cons.mpr ⟨ze_aload_n (k := 0) (by decide +kernel) rfl, ?_⟩
  refine List.forall_mem_cons.mpr ⟨ze_getL (by decide +kernel) fl_X12_17 rfl (by decide), ?_⟩
  refine List.forall_mem_cons.mpr ⟨ze_bipush (n := 11) (by decide +kernel) (by decide), ?_⟩
  refine List.forall_mem_cons.mpr ⟨ze_iald (by decide +kernel), ?_⟩
  refine List.forall_mem_cons.mpr ⟨ze_iastoreF (by decide +kernel), ?_⟩
  refine List.forall_mem_cons.mpr ⟨ze_aload_n (k := 0) (by decide +kernel) rfl, ?_⟩
  refine List.forall_mem_cons.mpr ⟨ze_iconst (n := 1) (by decide +kernel) (by decide), ?_⟩
  refine List.forall_mem_cons.mpr ⟨ze_putZ (by decide +kernel) fl_X12_202 ⟨_, _, _, rfl, rfl, by decide +kernel⟩ rfl, ?_⟩
  refine List.forall_mem_cons.mpr ⟨ze_iconst (n := 0) (by decide +kernel) (by decide), ?_⟩
  refine List.forall_mem_cons.mpr ⟨ze_istoreF_n (k := 1) (by decide +kernel) rfl (by decide), ?_⟩
  refine List.forall_mem_cons.mpr ⟨ze_iload_n (k := 1) (by decide +kernel) rfl, ?_⟩
  refine List.forall_mem_cons.mpr ⟨ze_aload_n (k := 0) (by decide +kernel) rfl, ?_⟩
  refine List.forall_mem_cons.mpr ⟨ze_getI (by decide +kernel) fl_X12_152 rfl, ?_⟩
  refine List.forall_mem_cons.mpr ⟨ze_icmp_ge (off := 52) (by decide +kernel) (by decide), ?_⟩
  refine List.forall_mem_cons.mpr ⟨ze_aload_n (k := 0) (by decide +kernel) rfl, ?_⟩
  refine List.forall_mem_cons.mpr ⟨ze_getL (by decide +kernel) fl_X12_20 rfl (by decide), ?_⟩
  refine List.forall_mem_cons.mpr ⟨ze_iconst (n := 2) (by decide +kernel) (by decide), ?_⟩
  refine List.forall_mem_cons.mpr ⟨ze_iload_n (k := 1) (by decide +kernel) rfl, ?_⟩
  refine List.forall_mem_cons.mpr ⟨ze_imul (by decide +kernel), ?_⟩
  refine List.forall_mem_cons.mpr ⟨ze_iald (by decide +kernel), ?_⟩
  refine List.forall_mem_cons.mpr ⟨ze_aload_n (k := 0) (by decide +kernel) rfl, ?_⟩
  refine List.forall_mem_cons.mpr ⟨ze_getL (by decide +kernel) fl_X12_17 rfl (by decide), ?_⟩
  refine List.forall_mem_cons.mpr ⟨ze_iconst (n := 1) (by decide +kernel) (by decide), ?_⟩
  refine List.forall_mem_cons.mpr ⟨ze_iald (by decide +kernel), ?_⟩
  refine List.forall_mem_cons.mpr ⟨ze_icmp_ge (off := 29) (by decide +kernel) (by decide), ?_⟩
  refine List.forall_mem_cons.mpr ⟨ze_aload_n (k := 0) (by decide +kernel) rfl, ?_⟩
  refine List.forall_mem_cons.mpr ⟨ze_getL (by decide +kernel) fl_X12_38 rfl (by decide), ?_⟩
  refine List.forall_mem_cons.mpr ⟨ze_bipush (n := 12) (by decide +kernel) (by decide), ?_⟩
  refine List.forall_mem_cons.mpr ⟨ze_aload_n (k := 0) (by decide +kernel) rfl, ?_⟩
  refine List.forall_mem_cons.mpr ⟨ze_getL (by decide +kernel) fl_X12_20 rfl (by decide), ?_⟩
  refine List.forall_mem_cons.mpr ⟨ze_iconst (n := 2) (by decide +kernel) (by decide), ?_⟩
  refine List.forall_mem_cons.mpr ⟨ze_iload_n (k := 1) (by decide +kernel) rfl, ?_⟩
  refine List.forall_mem_cons.mpr ⟨ze_imul (by decide +kernel), ?_⟩
  refine List.forall_mem_cons.mpr ⟨ze_iald (by decide +kernel), ?_⟩
  refine List.forall_mem_cons.mpr ⟨ze_iadd (by decide +kernel), ?_⟩
  refine List.forall_mem_cons.mpr ⟨ze_aload_n (k := 0) (by decide +kernel) rfl, ?_⟩
  refine List.forall_mem_cons.mpr ⟨ze_getL (by decide +kernel) fl_X12_20 rfl (by decide), ?_⟩
  refine List.forall_mem_cons.mpr ⟨ze_iconst (n := 2) (by decide +kernel) (by decide), ?_⟩
  refine List.forall_mem_cons.mpr ⟨ze_iload_n (k := 1) (by decide +kernel) rfl, ?_⟩
  refine List.forall_mem_cons.mpr ⟨ze_imul (by decide +kernel), ?_⟩
  refine List.forall_mem_cons.mpr ⟨ze_iconst (n := 1) (by decide +kernel) (by decide), ?_⟩
  refine List.forall_mem_cons.mpr ⟨ze_iadd (by decide +kernel), ?_⟩
  refine List.forall_mem_cons.mpr ⟨ze_iald (by decide +kernel), ?_⟩
  refine List.forall_mem_cons.mpr ⟨ze_iastoreF (by decide +kernel), ?_⟩
  refine List.forall_mem_cons.mpr ⟨ze_iincF (n := 1) (by decide +kernel) (by decide) (by decide), ?_⟩
  refine List.forall_mem_cons.mpr ⟨ze_goto (off := -54) (by decide +kernel) (by decide), ?_⟩
  refine List.forall_mem_cons.mpr ⟨ze_iconst (n := 0) (by decide +kernel) (by decide), ?_⟩
  refine List.forall_mem_cons.mpr ⟨ze_istoreF_n (k := 1) (by decide +kernel) rfl (by decide), ?_⟩
  refine List.forall_mem_cons.mpr ⟨ze_iload_n (k := 1) (by decide +kernel) rfl, ?_⟩
  refine List.forall_mem_cons.mpr ⟨ze_aload_n (k := 0) (by decide +kernel) rfl, ?_⟩
  refine List.forall_mem_cons.mpr ⟨ze_getI (by decide +kernel) fl_X12_155 rfl, ?_⟩
  refine List.forall_mem_cons.mpr ⟨ze_icmp_ge (off := 73) (by decide +kernel) (by decide), ?_⟩
  refine List.forall_mem_cons.mpr ⟨ze_aload_n (k := 0) (by decide +kernel) rfl, ?_⟩
  refine List.forall_mem_cons.mpr ⟨ze_aload_n (k := 0) (by decide +kernel) rfl, ?_⟩
  refine List.forall_mem_cons.mpr ⟨ze_getL (by decide +kernel) fl_X12_23 rfl (by decide), ?_⟩
  refine List.forall_mem_cons.mpr ⟨ze_iconst (n := 3) (by decide +kernel) (by decide), ?_⟩
  refine List.forall_mem_cons.mpr ⟨ze_iload_n (k := 1) (by decide +kernel) rfl, ?_⟩
  refine List.forall_mem_cons.mpr ⟨ze_imul (by decide +kernel), ?_⟩
  refine List.forall_mem_cons.mpr ⟨ze_iald (by decide +kernel), ?_⟩
  refine List.forall_mem_cons.mpr ⟨ze_aload_n (k := 0) (by decide +kernel) rfl, ?_⟩
  refine List.forall_mem_cons.mpr ⟨ze_getL (by decide +kernel) fl_X12_23 rfl (by decide), ?_⟩
  refine List.forall_mem_cons.mpr ⟨ze_iconst (n := 3) (by decide +kernel) (by decide), ?_⟩
  refine List.forall_mem_cons.mpr ⟨ze_iload_n (k := 1) (by decide +kernel) rfl, ?_⟩
  refine List.forall_mem_cons.mpr ⟨ze_imul (by decide +kernel), ?_⟩
  refine List.forall_mem_cons.mpr ⟨ze_iconst (n := 1) (by decide +kernel) (by decide), ?_⟩
  refine List.forall_mem_cons.mpr ⟨ze_iadd (by decide +kernel), ?_⟩
  refine List.forall_mem_cons.mpr ⟨ze_iald (by decide +kernel), ?_⟩
  refine List.forall_mem_cons.mpr ⟨ze_callVF (idx := 206) (by decide +kernel) ml_X12_206 mv_X12_isNode rfl, ?_⟩
  refine List.forall_mem_cons.mpr ⟨ze_if_eq (off := 42) (by decide +kernel) (by decide), ?_⟩
  refine List.forall_mem_cons.mpr ⟨ze_aload_n (k := 0) (by decide +kernel) rfl, ?_⟩
  refine List.forall_mem_cons.mpr ⟨ze_getL (by decide +kernel) fl_X12_38 rfl (by decide), ?_⟩
  refine List.forall_mem_cons.mpr ⟨ze_bipush (n := 25) (by decide +kernel) (by decide), ?_⟩
  refine List.forall_mem_cons.mpr ⟨ze_aload_n (k := 0) (by decide +kernel) rfl, ?_⟩
  refine List.forall_mem_cons.mpr ⟨ze_getL (by decide +kernel) fl_X12_23 rfl (by decide), ?_⟩
  refine List.forall_mem_cons.mpr ⟨ze_iconst (n := 3) (by decide +kernel) (by decide), ?_⟩
  refine List.forall_mem_cons.mpr ⟨ze_iload_n (k := 1) (by decide +kernel) rfl, ?_⟩
  refine List.forall_mem_cons.mpr ⟨ze_imul (by decide +kernel), ?_⟩
  refine List.forall_mem_cons.mpr ⟨ze_iald (by decide +kernel), ?_⟩
  refine List.forall_mem_cons.mpr ⟨ze_aload_n (k := 0) (by decide +kernel) rfl, ?_⟩
  refine List.forall_mem_cons.mpr ⟨ze_getL (by decide +kernel) fl_X12_23 rfl (by decide), ?_⟩
  refine List.forall_mem_cons.mpr ⟨ze_iconst (n := 3) (by decide +kernel) (by decide), ?_⟩
  refine List.forall_mem_cons.mpr ⟨ze_iload_n (k := 1) (by decide +kernel) rfl, ?_⟩
  refine List.forall_mem_cons.mpr ⟨ze_imul (by decide +kernel), ?_⟩
  refine List.forall_mem_cons.mpr ⟨ze_iconst (n := 1) (by decide +kernel) (by decide), ?_⟩
  refine List.forall_mem_cons.mpr ⟨ze_iadd (by decide +kernel), ?_⟩
  refine List.forall_mem_cons.mpr ⟨ze_iald (by decide +kernel), ?_⟩
  refine List.forall_mem_cons.mpr ⟨ze_callSF (idx := 210) (by decide +kernel) ml_X12_210 ms_X12_node, ?_⟩
  refine List.forall_mem_cons.mpr ⟨ze_iadd (by decide +kernel), ?_⟩
  refine List.forall_mem_cons.mpr ⟨ze_aload_n (k := 0) (by decide +kernel) rfl, ?_⟩
  refine List.forall_mem_cons.mpr ⟨ze_getL (by decide +kernel) fl_X12_23 rfl (by decide), ?_⟩
  refine List.forall_mem_cons.mpr ⟨ze_iconst (n := 3) (by decide +kernel) (by decide), ?_⟩
  refine List.forall_mem_cons.mpr ⟨ze_iload_n (k := 1) (by decide +kernel) rfl, ?_⟩
  refine List.forall_mem_cons.mpr ⟨ze_imul (by decide +kernel), ?_⟩
  refine List.forall_mem_cons.mpr ⟨ze_iconst (n := 2) (by decide +kernel) (by decide), ?_⟩
  refine List.forall_mem_cons.mpr ⟨ze_iadd (by decide +kernel), ?_⟩
  refine List.forall_mem_cons.mpr ⟨ze_iald (by decide +kernel), ?_⟩
  refine List.forall_mem_cons.mpr ⟨ze_iastoreF (by decide +kernel), ?_⟩
  refine List.forall_mem_cons.mpr ⟨ze_iincF (n := 1) (by decide +kernel) (by decide) (by decide), ?_⟩
  refine List.forall_mem_cons.mpr ⟨ze_goto (off := -75) (by decide +kernel) (by decide), ?_⟩
  refine List.forall_mem_cons.mpr ⟨ze_aload_n (k := 0) (by decide +kernel) rfl, ?_⟩
  refine List.forall_mem_cons.mpr ⟨ze_iconst (n := 0) (by decide +kernel) (by decide), ?_⟩
  refine List.forall_mem_cons.mpr ⟨ze_putI (by decide +kernel) fl_X12_214 ⟨_, _, _, rfl, rfl, by decide +kernel⟩ rfl, ?_⟩
  refine List.forall_mem_cons.mpr ⟨ze_aload_n (k := 0) (by decide +kernel) rfl, ?_⟩
  refine List.forall_mem_cons.mpr ⟨ze_iconst (n := 0) (by decide +kernel) (by decide), ?_⟩
  refine List.forall_mem_cons.mpr ⟨ze_putZ (by decide +kernel) fl_X12_217 ⟨_, _, _, rfl, rfl, by decide +kernel⟩ rfl, ?_⟩
  refine List.forall_mem_cons.mpr ⟨ze_vret (by decide +kernel) rfl, ?_⟩
  exact fun _ h => absurd h List.not_mem_nil
theorem vX12_begins {l : Launch} {G : GT} {d : Nat} {av : List Value} {Q : Po} {σ : Mm} (cs : List (Nat × List Nat)) (k : Nat) (h : vc l G d mX12_begins TX12_begins Q cs k TX12_begins (lv_args 0 av) [] σ) (hlen : (lg_sl av).length ≤ mX12_begins.2.2.1 := by exact Nat.le_of_ble_eq_true rfl) : MW l G d mX12_begins av σ Q := mw_vc TX12_begins_ok mc_X12_begins rfl hlen cs k rfl h
theorem wX12_begins {l : Launch} {G : GT} {d : Nat} {Q : Po} {pc : Nat} {lv : Lv} {st : List Value} {σ : Mm} (cs : List (Nat × List Nat)) (k : Nat) (h : vc l G d mX12_begins TX12_begins Q cs k (drp TX12_begins pc) lv st σ) (hpc : hdp (drp TX12_begins pc) = pc := by rfl) : Wp l G d mX12_begins pc lv st σ Q := wp_vc TX12_begins_ok cs k hpc h
def TX12_tellsPolicy : List In := [(0, 1, zt_ic 0), (1, 2, zt_istoreF 1), (2, 3, zt_ic 0), (3, 4, zt_istoreF 2), (4, 5, zt_iload 2), (5, 8, zt_ic 144), (8, 11, zt_icmp_ge 28), (11, 12, zt_aload 0), (12, 15, zt_getL 20 20), (15, 18, zt_ic 169), (18, 19, zt_iload 2), (19, 20, zt_iadd), (20, 21, zt_ic 0), (21, 22, zt_iastoreF), (22, 25, zt_iincF 2 1), (25, 28, zt_goto 4), (28, 29, zt_ic 0), (29, 30, zt_istoreF 2), (30, 31, zt_iload 2), (31, 32, zt_aload 0), (32, 35, zt_getI 20 15), (35, 38, zt_icmp_ge 109), (38, 39, zt_aload 0), (39, 40, zt_aload 0), (40, 43, zt_getL 20 9), (43, 44, zt_ic 3), (44, 45, zt_iload 2), (45, 46, zt_imul), (46, 47, zt_iald), (47, 48, zt_aload 0), (48, 51, zt_getL 20 9), (51, 52, zt_ic 3), (52, 53, zt_iload 2), (53, 54, zt_imul), (54, 55, zt_ic 1), (55, 56, zt_iadd), (56, 57, zt_iald), (57, 60, zt_callVF mX12_isNode 2 20), (60, 63, zt_if_eq 103), (63, 64, zt_aload 0), (64, 67, zt_getL 20 20), (67, 70, zt_ic 169), (70, 71, zt_aload 0), (71, 74, zt_getL 20 9), (74, 75, zt_ic 3), (75, 76, zt_iload 2), (76, 77, zt_imul), (77, 78, zt_iald), (78, 79, zt_aload 0), (79, 82, zt_getL 20 9), (82, 83, zt_ic 3), (83, 84, zt_iload 2), (84, 85, zt_imul), (85, 86, zt_ic 1), (86, 87, zt_iadd), (87, 88, zt_iald), (88, 91, zt_callSF mX12_node 2), (91, 92, zt_iadd), (92, 93, zt_aload 0), (93, 96, zt_getL 20 9), (96, 97, zt_ic 3), (97, 98, zt_iload 2), (98, 99, zt_imul), (99, 100, zt_ic 2), (100, 101, zt_iadd), (101, 102, zt_iald), (102, 103, zt_iastoreF), (103, 106, zt_iincF 2 1), (106, 109, zt_goto 30), (109, 110, zt_ic 0), (110, 111, zt_istoreF 2), (111, 112, zt_iload 2), (112, 115, zt_ic 144), (115, 118, zt_icmp_ge 145), (118, 119, zt_iload 1), (119, 120, zt_aload 0), (120, 123, zt_getL 20 20), (123, 126, zt_ic 169), (126, 127, zt_iload 2), (127, 128, zt_iadd), (128, 129, zt_iald), (129, 132, zt_if_ne 136), (132, 133, zt_ic 0), (133, 136, zt_goto 137), (136, 137, zt_ic 1), (137, 138, zt_iadd), (138, 139, zt_istoreF 1), (139, 142, zt_iincF 2 1), (142, 145, zt_goto 111), (145, 146, zt_iload 1), (146, 147, zt_iret)]
theorem TX12_tellsPolicy_ok : ∀ i ∈ TX12_tellsPolicy, Ent mX12_tellsPolicy i := by
  refine List.forall_mem_cons.mpr ⟨ze_iconst (n := 0) (by decide +kernel) (by decide), ?_⟩
  refine List.forall_mem_cons.mpr ⟨ze_istoreF_n (k := 1) (by decide +kernel) rfl (by decide), ?_⟩
  refine List.forall_mem_cons.mpr ⟨ze_iconst (n := 0) (by decide +kernel) (by decide), ?_⟩
  refine List.forall_mem_cons.mpr ⟨ze_istoreF_n (k := 2) (by decide +kernel) rfl (by decide), ?_⟩
  refine List.forall_mem_cons.mpr ⟨ze_iload_n (k := 2) (by decide +kernel) rfl, ?_⟩
  refine List.forall_mem_cons.mpr ⟨ze_sipush (n := 144) (by decide +kernel) (by decide), ?_⟩
  refine List.forall_mem_cons.mpr ⟨ze_icmp_ge (off := 20) (by decide +kernel) (by decide), ?_⟩
  refine List.forall_mem_cons.mpr ⟨ze_aload_n (k := 0) (by decide +kernel) rfl, ?_⟩
  refine List.forall_mem_cons.mpr ⟨ze_getL (by decide +kernel) fl_X12_38 rfl (by decide), ?_⟩
  refine List.forall_mem_cons.mpr ⟨ze_sipush (n := 169) (by decide +kernel) (by decide), ?_⟩
  refine List.forall_mem_cons.mpr ⟨ze_iload_n (k := 2) (by decide +kernel) rfl, ?_⟩
  refine List.forall_mem_cons.mpr ⟨ze_iadd (by decide +kernel), ?_⟩
  refine List.forall_mem_cons.mpr ⟨ze_iconst (n := 0) (by decide +kernel) (by decide), ?_⟩
  refine List.forall_mem_cons.mpr ⟨ze_iastoreF (by decide +kernel), ?_⟩
  refine List.forall_mem_cons.mpr ⟨ze_iincF (n := 1) (by decide +kernel) (by decide) (by decide), ?_⟩
  refine List.forall_mem_cons.mpr ⟨ze_goto (off := -21) (by decide +kernel) (by decide), ?_⟩
  refine List.forall_mem_cons.mpr ⟨ze_iconst (n := 0) (by decide +kernel) (by decide), ?_⟩
  refine List.forall_mem_cons.mpr ⟨ze_istoreF_n (k := 2) (by decide +kernel) rfl (by decide), ?_⟩
  refine List.forall_mem_cons.mpr ⟨ze_iload_n (k := 2) (by decide +kernel) rfl, ?_⟩
  refine List.forall_mem_cons.mpr ⟨ze_aload_n (k := 0) (by decide +kernel) rfl, ?_⟩
  refine List.forall_mem_cons.mpr ⟨ze_getI (by decide +kernel) fl_X12_175 rfl, ?_⟩
  refine List.forall_mem_cons.mpr ⟨ze_icmp_ge (off := 74) (by decide +kernel) (by decide), ?_⟩
  refine List.forall_mem_cons.mpr ⟨ze_aload_n (k := 0) (by decide +kernel) rfl, ?_⟩
  refine List.forall_mem_cons.mpr ⟨ze_aload_n (k := 0) (by decide +kernel) rfl, ?_⟩
  refine List.forall_mem_cons.mpr ⟨ze_getL (by decide +kernel) fl_X12_26 rfl (by decide), ?_⟩
  refine List.forall_mem_cons.mpr ⟨ze_iconst (n := 3) (by decide +kernel) (by decide), ?_⟩
  refine List.forall_mem_cons.mpr ⟨ze_iload_n (k := 2) (by decide +kernel) rfl, ?_⟩
  refine List.forall_mem_cons.mpr ⟨ze_imul (by decide +kernel), ?_⟩
  refine List.forall_mem_cons.mpr ⟨ze_iald (by decide +kernel), ?_⟩
  refine List.forall_mem_cons.mpr ⟨ze_aload_n (k := 0) (by decide +kernel) rfl, ?_⟩
  refine List.forall_mem_cons.mpr ⟨ze_getL (by decide +kernel) fl_X12_26 rfl (by decide), ?_⟩
  refine List.forall_mem_cons.mpr ⟨ze_iconst (n := 3) (by decide +kernel) (by decide), ?_⟩
  refine List.forall_mem_cons.mpr ⟨ze_iload_n (k := 2) (by decide +kernel) rfl, ?_⟩
  refine List.forall_mem_cons.mpr ⟨ze_imul (by decide +kernel), ?_⟩
  refine List.forall_mem_cons.mpr ⟨ze_iconst (n := 1) (by decide +kernel) (by decide), ?_⟩
  refine List.forall_mem_cons.mpr ⟨ze_iadd (by decide +kernel), ?_⟩
  refine List.forall_mem_cons.mpr ⟨ze_iald (by decide +kernel), ?_⟩
  refine List.forall_mem_cons.mpr ⟨ze_callVF (idx := 206) (by decide +kernel) ml_X12_206 mv_X12_isNode rfl, ?_⟩
  refine List.forall_mem_cons.mpr ⟨ze_if_eq (off := 43) (by decide +kernel) (by decide), ?_⟩
  refine List.forall_mem_cons.mpr ⟨ze_aload_n (k := 0) (by decide +kernel) rfl, ?_⟩
  refine List.forall_mem_cons.mpr ⟨ze_getL (by decide +kernel) fl_X12_38 rfl (by decide), ?_⟩
  refine List.forall_mem_cons.mpr ⟨ze_sipush (n := 169) (by decide +kernel) (by decide), ?_⟩
  refine List.forall_mem_cons.mpr ⟨ze_aload_n (k := 0) (by decide +kernel) rfl, ?_⟩
  refine List.forall_mem_cons.mpr ⟨ze_getL (by decide +kernel) fl_X12_26 rfl (by decide), ?_⟩
  refine List.forall_mem_cons.mpr ⟨ze_iconst (n := 3) (by decide +kernel) (by decide), ?_⟩
  refine List.forall_mem_cons.mpr ⟨ze_iload_n (k := 2) (by decide +kernel) rfl, ?_⟩
  refine List.forall_mem_cons.mpr ⟨ze_imul (by decide +kernel), ?_⟩
  refine List.forall_mem_cons.mpr ⟨ze_iald (by decide +kernel), ?_⟩
  refine List.forall_mem_cons.mpr ⟨ze_aload_n (k := 0) (by decide +kernel) rfl, ?_⟩
  refine List.forall_mem_cons.mpr ⟨ze_getL (by decide +kernel) fl_X12_26 rfl (by decide), ?_⟩
  refine List.forall_mem_cons.mpr ⟨ze_iconst (n := 3) (by decide +kernel) (by decide), ?_⟩
  refine List.forall_mem_cons.mpr ⟨ze_iload_n (k := 2) (by decide +kernel) rfl, ?_⟩
  refine List.forall_mem_cons.mpr ⟨ze_imul (by decide +kernel), ?_⟩
  refine List.forall_mem_cons.mpr ⟨ze_iconst (n := 1) (by decide +kernel) (by decide), ?_⟩
  refine List.forall_mem_cons.mpr ⟨ze_iadd (by decide +kernel), ?_⟩
  refine List.forall_mem_cons.mpr ⟨ze_iald (by decide +kernel), ?_⟩
  refine List.forall_mem_cons.mpr ⟨ze_callSF (idx := 210) (by decide +kernel) ml_X12_210 ms_X12_node, ?_⟩
  refine List.forall_mem_cons.mpr ⟨ze_iadd (by decide +kernel), ?_⟩
  refine List.forall_mem_cons.mpr ⟨ze_aload_n (k := 0) (by decide +kernel) rfl, ?_⟩
  refine List.forall_mem_cons.mpr ⟨ze_getL (by decide +kernel) fl_X12_26 rfl (by decide), ?_⟩
  refine List.forall_mem_cons.mpr ⟨ze_iconst (n := 3) (by decide +kernel) (by decide), ?_⟩
  refine List.forall_mem_cons.mpr ⟨ze_iload_n (k := 2) (by decide +kernel) rfl, ?_⟩
  refine List.forall_mem_cons.mpr ⟨ze_imul (by decide +kernel), ?_⟩
  refine List.forall_mem_cons.mpr ⟨ze_iconst (n := 2) (by decide +kernel) (by decide), ?_⟩
  refine List.forall_mem_cons.mpr ⟨ze_iadd (by decide +kernel), ?_⟩
  refine List.forall_mem_cons.mpr ⟨ze_iald (by decide +kernel), ?_⟩
  refine List.forall_mem_cons.mpr ⟨ze_iastoreF (by decide +kernel), ?_⟩
  refine List.forall_mem_cons.mpr ⟨ze_iincF (n := 1) (by decide +kernel) (by decide) (by decide), ?_⟩
  refine List.forall_mem_cons.mpr ⟨ze_goto (off := -76) (by decide +kernel) (by decide), ?_⟩
  refine List.forall_mem_cons.mpr ⟨ze_iconst (n := 0) (by decide +kernel) (by decide), ?_⟩
  refine List.forall_mem_cons.mpr ⟨ze_istoreF_n (k := 2) (by decide +kernel) rfl (by decide), ?_⟩
  refine List.forall_mem_cons.mpr ⟨ze_iload_n (k := 2) (by decide +kernel) rfl, ?_⟩
  refine List.forall_mem_cons.mpr ⟨ze_sipush (n := 144) (by decide +kernel) (by decide), ?_⟩
  refine List.forall_mem_cons.mpr ⟨ze_icmp_ge (off := 30) (by decide +kernel) (by decide), ?_⟩
  refine List.forall_mem_cons.mpr ⟨ze_iload_n (k := 1) (by decide +kernel) rfl, ?_⟩
  refine List.forall_mem_cons.mpr ⟨ze_aload_n (k := 0) (by decide +kernel) rfl, ?_⟩
  refine List.forall_mem_cons.mpr ⟨ze_getL (by decide +kernel) fl_X12_38 rfl (by decide), ?_⟩
  refine List.forall_mem_cons.mpr ⟨ze_sipush (n := 169) (by decide +kernel) (by decide), ?_⟩
  refine List.forall_mem_cons.mpr ⟨ze_iload_n (k := 2) (by decide +kernel) rfl, ?_⟩
  refine List.forall_mem_cons.mpr ⟨ze_iadd (by decide +kernel), ?_⟩
  refine List.forall_mem_cons.mpr ⟨ze_iald (by decide +kernel), ?_⟩
  refine List.forall_mem_cons.mpr ⟨ze_if_ne (off := 7) (by decide +kernel) (by decide), ?_⟩
  refine List.forall_mem_cons.mpr ⟨ze_iconst (n := 0) (by decide +kernel) (by decide), ?_⟩
  refine List.forall_mem_cons.mpr ⟨ze_goto (off := 4) (by decide +kernel) (by decide), ?_⟩
  refine List.forall_mem_cons.mpr ⟨ze_iconst (n := 1) (by decide +kernel) (by decide), ?_⟩
  refine List.forall_mem_cons.mpr ⟨ze_iadd (by decide +kernel), ?_⟩
  refine List.forall_mem_cons.mpr ⟨ze_istoreF_n (k := 1) (by decide +kernel) rfl (by decide), ?_⟩
  refine List.forall_mem_cons.mpr ⟨ze_iincF (n := 1) (by decide +kernel) (by decide) (by decide), ?_⟩
  refine List.forall_mem_cons.mpr ⟨ze_goto (off := -31) (by decide +kernel) (by decide), ?_⟩
  refine List.forall_mem_cons.mpr ⟨ze_iload_n (k := 1) (by decide +kernel) rfl, ?_⟩
  refine List.forall_mem_cons.mpr ⟨ze_iret (by decide +kernel) rfl, ?_⟩
  exact fun _ h => absurd h List.not_mem_nil
theorem vX12_tellsPolicy {l : Launch} {G : GT} {d : Nat} {av : List Value} {Q : Po} {σ : Mm} (cs : List (Nat × List Nat)) (k : Nat) (h : vc l G d mX12_tellsPolicy TX12_tellsPolicy Q cs k TX12_tellsPolicy (lv_args 0 av) [] σ) (hlen : (lg_sl av).length ≤ mX12_tellsPolicy.2.2.1 := by exact Nat.le_of_ble_eq_true rfl) : MW l G d mX12_tellsPolicy av σ Q := mw_vc TX12_tellsPolicy_ok mc_X12_tellsPolicy rfl hlen cs k rfl h
theorem wX12_tellsPolicy {l : Launch} {G : GT} {d : Nat} {Q : Po} {pc : Nat} {lv : Lv} {st : List Value} {σ : Mm} (cs : List (Nat × List Nat)) (k : Nat) (h : vc l G d mX12_tellsPolicy TX12_tellsPolicy Q cs k (drp TX12_tellsPolicy pc) lv st σ) (hpc : hdp (drp TX12_tellsPolicy pc) = pc := by rfl) : Wp l G d mX12_tellsPolicy pc lv st σ Q := wp_vc TX12_tellsPolicy_ok cs k hpc h
def TX12_text : List In := [(0, 1, zt_aload 0), (1, 2, zt_ic 0), (2, 5, zt_putI 20 0), (5, 6, zt_iload 1), (6, 7, zt_i2l), (7, 8, zt_lc 0), (8, 11, zt_lc (2 : Int64)), (11, 14, zt_callSF mX12_isIn 3), (14, 17, zt_if_eq 51), (17, 18, zt_iload 1), (18, 19, zt_ic 1), (19, 22, zt_icmp_ne 30), (22, 23, zt_aload 0), (23, 26, zt_getI 20 16), (26, 27, zt_ic 4), (27, 30, zt_icmp_eq 51), (30, 31, zt_iload 1), (31, 32, zt_ic 2), (32, 35, zt_icmp_ne 42), (35, 36, zt_aload 0), (36, 39, zt_getI 20 17), (39, 42, zt_if_eq 51), (42, 43, zt_aload 0), (43, 44, zt_iload 1), (44, 47, zt_callVF mX12_fault 1 20), (47, 48, zt_ic (-1)), (48, 51, zt_icmp_eq 53), (51, 52, zt_ic (-1)), (52, 53, zt_iret), (53, 54, zt_aload 0), (54, 55, zt_ic 0), (55, 58, zt_putI 20 2), (58, 59, zt_iload 1), (59, 60, zt_ic 2), (60, 63, zt_icmp_ne 68), (63, 64, zt_aload 0), (64, 67, zt_callVF mX12_tellsPolicy 0 20), (67, 68, zt_iret), (68, 69, zt_iload 1), (69, 70, zt_ic 1), (70, 73, zt_icmp_ne 144), (73, 75, zt_ic 64), (75, 76, zt_istoreF 2), (76, 77, zt_ic 0), (77, 78, zt_istoreF 3), (78, 79, zt_iload 3), (79, 80, zt_iload 2), (80, 83, zt_icmp_ge 112), (83, 84, zt_aload 0), (84, 87, zt_getL 20 11), (87, 88, zt_iload 2), (88, 89, zt_aload 0), (89, 92, zt_getI 20 16), (92, 93, zt_imul), (93, 94, zt_iload 3), (94, 95, zt_iadd), (95, 96, zt_aload 0), (96, 99, zt_getL 20 11), (99, 100, zt_iload 2), (100, 101, zt_ic 4), (101, 102, zt_imul), (102, 103, zt_iload 3), (103, 104, zt_iadd), (104, 105, zt_iald), (105, 106, zt_iastoreF), (106, 109, zt_iincF 3 1), (109, 112, zt_goto 78), (112, 113, zt_aload 0), (113, 116, zt_getL 20 12), (116, 117, zt_aload 0), (117, 120, zt_getI 20 16), (120, 121, zt_aload 0), (121, 124, zt_getL 20 12), (124, 125, zt_ic 4), (125, 126, zt_iald), (126, 127, zt_iastoreF), (127, 128, zt_aload 0), (128, 129, zt_dup), (129, 132, zt_getI 20 16), (132, 133, zt_ic 1), (133, 134, zt_iadd), (134, 137, zt_putI 20 16), (137, 138, zt_aload 0), (138, 141, zt_getI 20 16), (141, 142, zt_ic 1), (142, 143, zt_isub), (143, 144, zt_iret), (144, 145, zt_aload 0), (145, 148, zt_callVF mX12_begins 0 20), (148, 149, zt_aload 0), (149, 152, zt_getL 20 6), (152, 153, zt_ic 1), (153, 154, zt_iald), (154, 155, zt_iret)]
theorem TX12_text_ok : ∀ i ∈ TX12_text, Ent mX12_text i := by
  refine List.forall_mem_cons.mpr ⟨ze_aload_n (k := 0) (by decide +kernel) rfl, ?_⟩
  refine List.forall_mem_cons.mpr ⟨ze_iconst (n := 0) (by decide +kernel) (by decide), ?_⟩
  refine List.forall_mem_cons.mpr ⟨ze_putI (by decide +kernel) fl_X12_82 ⟨_, _, _, rfl, rfl, by decide +kernel⟩ rfl, ?_⟩
  refine List.forall_mem_cons.mpr ⟨ze_iload_n (k := 1) (by decide +kernel) rfl, ?_⟩
  refine List.forall_mem_cons.mpr ⟨ze_i2l (by decide +kernel), ?_⟩
  refine List.forall_mem_cons.mpr ⟨ze_lconst (n := 0) (by decide +kernel) (by decide), ?_⟩
  refine List.forall_mem_cons.mpr ⟨ze_ldc2 (i := 191) (by decide +kernel) kc_X12_191, ?_⟩
  refine List.forall_mem_cons.mpr ⟨ze_callSF (idx := 148) (by decide +kernel) ml_X12_148 ms_X12_isIn, ?_⟩
  refine List.forall_mem_cons.mpr ⟨ze_if_eq (off := 37) (by decide +kernel) (by decide), ?_⟩
  refine List.forall_mem_cons.mpr ⟨ze_iload_n (k := 1) (by decide +kernel) rfl, ?_⟩
  refine List.forall_mem_cons.mpr ⟨ze_iconst (n := 1) (by decide +kernel) (by decide), ?_⟩
  refine List.forall_mem_cons.mpr ⟨ze_icmp_ne (off := 11) (by decide +kernel) (by decide), ?_⟩
  refine List.forall_mem_cons.mpr ⟨ze_aload_n (k := 0) (by decide +kernel) rfl, ?_⟩
  refine List.forall_mem_cons.mpr ⟨ze_getI (by decide +kernel) fl_X12_220 rfl, ?_⟩
  refine List.forall_mem_cons.mpr ⟨ze_iconst (n := 4) (by decide +kernel) (by decide), ?_⟩
  refine List.forall_mem_cons.mpr ⟨ze_icmp_eq (off := 24) (by decide +kernel) (by decide), ?_⟩
  refine List.forall_mem_cons.mpr ⟨ze_iload_n (k := 1) (by decide +kernel) rfl, ?_⟩
  refine List.forall_mem_cons.mpr ⟨ze_iconst (n := 2) (by decide +kernel) (by decide), ?_⟩
  refine List.forall_mem_cons.mpr ⟨ze_icmp_ne (off := 10) (by decide +kernel) (by decide), ?_⟩
  refine List.forall_mem_cons.mpr ⟨ze_aload_n (k := 0) (by decide +kernel) rfl, ?_⟩
  refine List.forall_mem_cons.mpr ⟨ze_getI (by decide +kernel) fl_X12_202 rfl, ?_⟩
  refine List.forall_mem_cons.mpr ⟨ze_if_eq (off := 12) (by decide +kernel) (by decide), ?_⟩
  refine List.forall_mem_cons.mpr ⟨ze_aload_n (k := 0) (by decide +kernel) rfl, ?_⟩
  refine List.forall_mem_cons.mpr ⟨ze_iload_n (k := 1) (by decide +kernel) rfl, ?_⟩
  refine List.forall_mem_cons.mpr ⟨ze_callVF (idx := 223) (by decide +kernel) ml_X12_223 mv_X12_fault rfl, ?_⟩
  refine List.forall_mem_cons.mpr ⟨ze_iconst (n := -1) (by decide +kernel) (by decide), ?_⟩
  refine List.forall_mem_cons.mpr ⟨ze_icmp_eq (off := 5) (by decide +kernel) (by decide), ?_⟩
  refine List.forall_mem_cons.mpr ⟨ze_iconst (n := -1) (by decide +kernel) (by decide), ?_⟩
  refine List.forall_mem_cons.mpr ⟨ze_iret (by decide +kernel) rfl, ?_⟩
  refine List.forall_mem_cons.mpr ⟨ze_aload_n (k := 0) (by decide +kernel) rfl, ?_⟩
  refine List.forall_mem_cons.mpr ⟨ze_iconst (n := 0) (by decide +kernel) (by decide), ?_⟩
  refine List.forall_mem_cons.mpr ⟨ze_putI (by decide +kernel) fl_X12_86 ⟨_, _, _, rfl, rfl, by decide +kernel⟩ rfl, ?_⟩
  refine List.forall_mem_cons.mpr ⟨ze_iload_n (k := 1) (by decide +kernel) rfl, ?_⟩
  refine List.forall_mem_cons.mpr ⟨ze_iconst (n := 2) (by decide +kernel) (by decide), ?_⟩
  refine List.forall_mem_cons.mpr ⟨ze_icmp_ne (off := 8) (by decide +kernel) (by decide), ?_⟩
  refine List.forall_mem_cons.mpr ⟨ze_aload_n (k := 0) (by decide +kernel) rfl, ?_⟩
  refine List.forall_mem_cons.mpr ⟨ze_callVF (idx := 225) (by decide +kernel) ml_X12_225 mv_X12_tellsPolicy rfl, ?_⟩
  refine List.forall_mem_cons.mpr ⟨ze_iret (by decide +kernel) rfl, ?_⟩
  refine List.forall_mem_cons.mpr ⟨ze_iload_n (k := 1) (by decide +kernel) rfl, ?_⟩
  refine List.forall_mem_cons.mpr ⟨ze_iconst (n := 1) (by decide +kernel) (by decide), ?_⟩
  refine List.forall_mem_cons.mpr ⟨ze_icmp_ne (off := 74) (by decide +kernel) (by decide), ?_⟩
  refine List.forall_mem_cons.mpr ⟨ze_bipush (n := 64) (by decide +kernel) (by decide), ?_⟩
  refine List.forall_mem_cons.mpr ⟨ze_istoreF_n (k := 2) (by decide +kernel) rfl (by decide), ?_⟩
  refine List.forall_mem_cons.mpr ⟨ze_iconst (n := 0) (by decide +kernel) (by decide), ?_⟩
  refine List.forall_mem_cons.mpr ⟨ze_istoreF_n (k := 3) (by decide +kernel) rfl (by decide), ?_⟩
  refine List.forall_mem_cons.mpr ⟨ze_iload_n (k := 3) (by decide +kernel) rfl, ?_⟩
  refine List.forall_mem_cons.mpr ⟨ze_iload_n (k := 2) (by decide +kernel) rfl, ?_⟩
  refine List.forall_mem_cons.mpr ⟨ze_icmp_ge (off := 32) (by decide +kernel) (by decide), ?_⟩
  refine List.forall_mem_cons.mpr ⟨ze_aload_n (k := 0) (by decide +kernel) rfl, ?_⟩
  refine List.forall_mem_cons.mpr ⟨ze_getL (by decide +kernel) fl_X12_32 rfl (by decide), ?_⟩
  refine List.forall_mem_cons.mpr ⟨ze_iload_n (k := 2) (by decide +kernel) rfl, ?_⟩
  refine List.forall_mem_cons.mpr ⟨ze_aload_n (k := 0) (by decide +kernel) rfl, ?_⟩
  refine List.forall_mem_cons.mpr ⟨ze_getI (by decide +kernel) fl_X12_220 rfl, ?_⟩
  refine List.forall_mem_cons.mpr ⟨ze_imul (by decide +kernel), ?_⟩
  refine List.forall_mem_cons.mpr ⟨ze_iload_n (k := 3) (by decide +kernel) rfl, ?_⟩
  refine List.forall_mem_cons.mpr ⟨ze_iadd (by decide +kernel), ?_⟩
  refine List.forall_mem_cons.mpr ⟨ze_aload_n (k := 0) (by decide +kernel) rfl, ?_⟩
  refine List.forall_mem_cons.mpr ⟨ze_getL (by decide +kernel) fl_X12_32 rfl (by decide), ?_⟩
  refine List.forall_mem_cons.mpr ⟨ze_iload_n (k := 2) (by decide +kernel) rfl, ?_⟩
  refine List.forall_mem_cons.mpr ⟨ze_iconst (n := 4) (by decide +kernel) (by decide), ?_⟩
  refine List.forall_mem_cons.mpr ⟨ze_imul (by decide +kernel), ?_⟩
  refine List.forall_mem_cons.mpr ⟨ze_iload_n (k := 3) (by decide +kernel) rfl, ?_⟩
  refine List.forall_mem_cons.mpr ⟨ze_iadd (by decide +kernel), ?_⟩
  refine List.forall_mem_cons.mpr ⟨ze_iald (by decide +kernel), ?_⟩
  refine List.forall_mem_cons.mpr ⟨ze_iastoreF (by decide +kernel), ?_⟩
  refine List.forall_mem_cons.mpr ⟨ze_iincF (n := 1) (by decide +kernel) (by decide) (by decide), ?_⟩
  refine List.forall_mem_cons.mpr ⟨ze_goto (off := -31) (by decide +kernel) (by decide), ?_⟩
  refine List.forall_mem_cons.mpr ⟨ze_aload_n (k := 0) (by decide +kernel) rfl, ?_⟩
  refine List.forall_mem_cons.mpr ⟨ze_getL (by decide +kernel) fl_X12_35 rfl (by decide), ?_⟩
  refine List.forall_mem_cons.mpr ⟨ze_aload_n (k := 0) (by decide +kernel) rfl, ?_⟩
  refine List.forall_mem_cons.mpr ⟨ze_getI (by decide +kernel) fl_X12_220 rfl, ?_⟩
  refine List.forall_mem_cons.mpr ⟨ze_aload_n (k := 0) (by decide +kernel) rfl, ?_⟩
  refine List.forall_mem_cons.mpr ⟨ze_getL (by decide +kernel) fl_X12_35 rfl (by decide), ?_⟩
  refine List.forall_mem_cons.mpr ⟨ze_iconst (n := 4) (by decide +kernel) (by decide), ?_⟩
  refine List.forall_mem_cons.mpr ⟨ze_iald (by decide +kernel), ?_⟩
  refine List.forall_mem_cons.mpr ⟨ze_iastoreF (by decide +kernel), ?_⟩
  refine List.forall_mem_cons.mpr ⟨ze_aload_n (k := 0) (by decide +kernel) rfl, ?_⟩
  refine List.forall_mem_cons.mpr ⟨ze_dup (by decide +kernel), ?_⟩
  refine List.forall_mem_cons.mpr ⟨ze_getI (by decide +kernel) fl_X12_220 rfl, ?_⟩
  refine List.forall_mem_cons.mpr ⟨ze_iconst (n := 1) (by decide +kernel) (by decide), ?_⟩
  refine List.forall_mem_cons.mpr ⟨ze_iadd (by decide +kernel), ?_⟩
  refine List.forall_mem_cons.mpr ⟨ze_putI (by decide +kernel) fl_X12_220 ⟨_, _, _, rfl, rfl, by decide +kernel⟩ rfl, ?_⟩
  refine List.forall_mem_cons.mpr ⟨ze_aload_n (k := 0) (by decide +kernel) rfl, ?_⟩
  refine List.forall_mem_cons.mpr ⟨ze_getI (by decide +kernel) fl_X12_220 rfl, ?_⟩
  refine List.forall_mem_cons.mpr ⟨ze_iconst (n := 1) (by decide +kernel) (by decide), ?_⟩
  refine List.forall_mem_cons.mpr ⟨ze_isub (by decide +kernel), ?_⟩
  refine List.forall_mem_cons.mpr ⟨ze_iret (by decide +kernel) rfl, ?_⟩
  refine List.forall_mem_cons.mpr ⟨ze_aload_n (k := 0) (by decide +kernel) rfl, ?_⟩
  refine List.forall_mem_cons.mpr ⟨ze_callVF (idx := 228) (by decide +kernel) ml_X12_228 mv_X12_begins rfl, ?_⟩
  refine List.forall_mem_cons.mpr ⟨ze_aload_n (k := 0) (by decide +kernel) rfl, ?_⟩
  refine List.forall_mem_cons.mpr ⟨ze_getL (by decide +kernel) fl_X12_17 rfl (by decide), ?_⟩
  refine List.forall_mem_cons.mpr ⟨ze_iconst (n := 1) (by decide +kernel) (by decide), ?_⟩
  refine List.forall_mem_cons.mpr ⟨ze_iald (by decide +kernel), ?_⟩
  refine List.forall_mem_cons.mpr ⟨ze_iret (by decide +kernel) rfl, ?_⟩
  exact fun _ h => absurd h List.not_mem_nil
theorem vX12_text {l : Launch} {G : GT} {d : Nat} {av : List Value} {Q : Po} {σ : Mm} (cs : List (Nat × List Nat)) (k : Nat) (h : vc l G d mX12_text TX12_text Q cs k TX12_text (lv_args 0 av) [] σ) (hlen : (lg_sl av).length ≤ mX12_text.2.2.1 := by exact Nat.le_of_ble_eq_true rfl) : MW l G d mX12_text av σ Q := mw_vc TX12_text_ok mc_X12_text rfl hlen cs k rfl h
theorem wX12_text {l : Launch} {G : GT} {d : Nat} {Q : Po} {pc : Nat} {lv : Lv} {st : List Value} {σ : Mm} (cs : List (Nat × List Nat)) (k : Nat) (h : vc l G d mX12_text TX12_text Q cs k (drp TX12_text pc) lv st σ) (hpc : hdp (drp TX12_text pc) = pc := by rfl) : Wp l G d mX12_text pc lv st σ Q := wp_vc TX12_text_ok cs k hpc h
def TX12_copyRow : List In := [(0, 1, zt_ic 0), (1, 3, zt_istoreF 4), (3, 5, zt_iload 4), (5, 8, zt_ic 494), (8, 11, zt_icmp_ge 29), (11, 12, zt_aload 2), (12, 13, zt_iload 3), (13, 15, zt_iload 4), (15, 16, zt_iadd), (16, 17, zt_aload 0), (17, 18, zt_iload 1), (18, 20, zt_iload 4), (20, 21, zt_iadd), (21, 22, zt_iald), (22, 23, zt_iastoreF), (23, 26, zt_iincF 4 1), (26, 29, zt_goto 3), (29, 30, zt_vret)]
theorem TX12_copyRow_ok : ∀ i ∈ TX12_copyRow, Ent mX12_copyRow i := by
  refine List.forall_mem_cons.mpr ⟨ze_iconst (n := 0) (by decide +kernel) (by decide), ?_⟩
  refine List.forall_mem_cons.mpr ⟨ze_istoreF (by decide +kernel) (by decide), ?_⟩
  refine List.forall_mem_cons.mpr ⟨ze_iload (by decide +kernel), ?_⟩
  refine List.forall_mem_cons.mpr ⟨ze_sipush (n := 494) (by decide +kernel) (by decide), ?_⟩
  refine List.forall_mem_cons.mpr ⟨ze_icmp_ge (off := 21) (by decide +kernel) (by decide), ?_⟩
  refine List.forall_mem_cons.mpr ⟨ze_aload_n (k := 2) (by decide +kernel) rfl, ?_⟩
  refine List.forall_mem_cons.mpr ⟨ze_iload_n (k := 3) (by decide +kernel) rfl, ?_⟩
  refine List.forall_mem_cons.mpr ⟨ze_iload (by decide +kernel), ?_⟩
  refine List.forall_mem_cons.mpr ⟨ze_iadd (by decide +kernel), ?_⟩
  refine List.forall_mem_cons.mpr ⟨ze_aload_n (k := 0) (by decide +kernel) rfl, ?_⟩
  refine List.forall_mem_cons.mpr ⟨ze_iload_n (k := 1) (by decide +kernel) rfl, ?_⟩
  refine List.forall_mem_cons.mpr ⟨ze_iload (by decide +kernel), ?_⟩
  refine List.forall_mem_cons.mpr ⟨ze_iadd (by decide +kernel), ?_⟩
  refine List.forall_mem_cons.mpr ⟨ze_iald (by decide +kernel), ?_⟩
  refine List.forall_mem_cons.mpr ⟨ze_iastoreF (by decide +kernel), ?_⟩
  refine List.forall_mem_cons.mpr ⟨ze_iincF (n := 1) (by decide +kernel) (by decide) (by decide), ?_⟩
  refine List.forall_mem_cons.mpr ⟨ze_goto (off := -23) (by decide +kernel) (by decide), ?_⟩
  refine List.forall_mem_cons.mpr ⟨ze_vret (by decide +kernel) rfl, ?_⟩
  exact fun _ h => absurd h List.not_mem_nil
theorem vX12_copyRow {l : Launch} {G : GT} {d : Nat} {av : List Value} {Q : Po} {σ : Mm} (cs : List (Nat × List Nat)) (k : Nat) (h : vc l G d mX12_copyRow TX12_copyRow Q cs k TX12_copyRow (lv_args 0 av) [] σ) (hlen : (lg_sl av).length ≤ mX12_copyRow.2.2.1 := by exact Nat.le_of_ble_eq_true rfl) : MW l G d mX12_copyRow av σ Q := mw_vc TX12_copyRow_ok mc_X12_copyRow rfl hlen cs k rfl h
theorem wX12_copyRow {l : Launch} {G : GT} {d : Nat} {Q : Po} {pc : Nat} {lv : Lv} {st : List Value} {σ : Mm} (cs : List (Nat × List Nat)) (k : Nat) (h : vc l G d mX12_copyRow TX12_copyRow Q cs k (drp TX12_copyRow pc) lv st σ) (hpc : hdp (drp TX12_copyRow pc) = pc := by rfl) : Wp l G d mX12_copyRow pc lv st σ Q := wp_vc TX12_copyRow_ok cs k hpc h
def TX12_node : List In := [(0, 2, zt_ic 12), (2, 3, zt_iload 0), (3, 4, zt_imul), (4, 5, zt_iload 1), (5, 6, zt_iadd), (6, 7, zt_iret)]
theorem TX12_node_ok : ∀ i ∈ TX12_node, Ent mX12_node i := by
  refine List.forall_mem_cons.mpr ⟨ze_bipush (n := 12) (by decide +kernel) (by decide), ?_⟩
  refine List.forall_mem_cons.mpr ⟨ze_iload_n (k := 0) (by decide +kernel) rfl, ?_⟩
  refine List.forall_mem_cons.mpr ⟨ze_imul (by decide +kernel), ?_⟩
  refine List.forall_mem_cons.mpr ⟨ze_iload_n (k := 1) (by decide +kernel) rfl, ?_⟩
  refine List.forall_mem_cons.mpr ⟨ze_iadd (by decide +kernel), ?_⟩
  refine List.forall_mem_cons.mpr ⟨ze_iret (by decide +kernel) rfl, ?_⟩
  exact fun _ h => absurd h List.not_mem_nil
theorem vX12_node {l : Launch} {G : GT} {d : Nat} {av : List Value} {Q : Po} {σ : Mm} (cs : List (Nat × List Nat)) (k : Nat) (h : vc l G d mX12_node TX12_node Q cs k TX12_node (lv_args 0 av) [] σ) (hlen : (lg_sl av).length ≤ mX12_node.2.2.1 := by exact Nat.le_of_ble_eq_true rfl) : MW l G d mX12_node av σ Q := mw_vc TX12_node_ok mc_X12_node rfl hlen cs k rfl h
theorem wX12_node {l : Launch} {G : GT} {d : Nat} {Q : Po} {pc : Nat} {lv : Lv} {st : List Value} {σ : Mm} (cs : List (Nat × List Nat)) (k : Nat) (h : vc l G d mX12_node TX12_node Q cs k (drp TX12_node pc) lv st σ) (hpc : hdp (drp TX12_node pc) = pc := by rfl) : Wp l G d mX12_node pc lv st σ Q := wp_vc TX12_node_ok cs k hpc h
def TX12_isNode : List In := [(0, 1, zt_aload 0), (1, 4, zt_getI 20 17), (4, 7, zt_if_eq 40), (7, 8, zt_iload 1), (8, 9, zt_i2l), (9, 10, zt_lc 0), (10, 11, zt_aload 0), (11, 14, zt_getL 20 6), (14, 15, zt_ic 1), (15, 16, zt_iald), (16, 17, zt_ic 1), (17, 18, zt_isub), (18, 19, zt_i2l), (19, 22, zt_callSF mX12_isIn 3), (22, 25, zt_if_eq 40), (25, 26, zt_iload 2), (26, 27, zt_i2l), (27, 28, zt_lc 0), (28, 29, zt_iload 1), (29, 30, zt_i2l), (30, 33, zt_callSF mX12_isIn 3), (33, 36, zt_if_eq 40), (36, 37, zt_ic 1), (37, 40, zt_goto 41), (40, 41, zt_ic 0), (41, 42, zt_zret)]
theorem TX12_isNode_ok : ∀ i ∈ TX12_isNode, Ent mX12_isNode i := by
  refine List.forall_mem_cons.mpr ⟨ze_aload_n (k := 0) (by decide +kernel) rfl, ?_⟩
  refine List.forall_mem_cons.mpr ⟨ze_getI (by decide +kernel) fl_X12_202 rfl, ?_⟩
  refine List.forall_mem_cons.mpr ⟨ze_if_eq (off := 36) (by decide +kernel) (by decide), ?_⟩
  refine List.forall_mem_cons.mpr ⟨ze_iload_n (k := 1) (by decide +kernel) rfl, ?_⟩
  refine List.forall_mem_cons.mpr ⟨ze_i2l (by decide +kernel), ?_⟩
  refine List.forall_mem_cons.mpr ⟨ze_lconst (n := 0) (by decide +kernel) (by decide), ?_⟩
  refine List.forall_mem_cons.mpr ⟨ze_aload_n (k := 0) (by decide +kernel) rfl, ?_⟩
  refine List.forall_mem_cons.mpr ⟨ze_getL (by decide +kernel) fl_X12_17 rfl (by decide), ?_⟩
  refine List.forall_mem_cons.mpr ⟨ze_iconst (n := 1) (by decide +kernel) (by decide), ?_⟩
  refine List.forall_mem_cons.mpr ⟨ze_iald (by decide +kernel), ?_⟩
  refine List.forall_mem_cons.mpr ⟨ze_iconst (n := 1) (by decide +kernel) (by decide), ?_⟩
  refine List.forall_mem_cons.mpr ⟨ze_isub (by decide +kernel), ?_⟩
  refine List.forall_mem_cons.mpr ⟨ze_i2l (by decide +kernel), ?_⟩
  refine List.forall_mem_cons.mpr ⟨ze_callSF (idx := 148) (by decide +kernel) ml_X12_148 ms_X12_isIn, ?_⟩
  refine List.forall_mem_cons.mpr ⟨ze_if_eq (off := 18) (by decide +kernel) (by decide), ?_⟩
  refine List.forall_mem_cons.mpr ⟨ze_iload_n (k := 2) (by decide +kernel) rfl, ?_⟩
  refine List.forall_mem_cons.mpr ⟨ze_i2l (by decide +kernel), ?_⟩
  refine List.forall_mem_cons.mpr ⟨ze_lconst (n := 0) (by decide +kernel) (by decide), ?_⟩
  refine List.forall_mem_cons.mpr ⟨ze_iload_n (k := 1) (by decide +kernel) rfl, ?_⟩
  refine List.forall_mem_cons.mpr ⟨ze_i2l (by decide +kernel), ?_⟩
  refine List.forall_mem_cons.mpr ⟨ze_callSF (idx := 148) (by decide +kernel) ml_X12_148 ms_X12_isIn, ?_⟩
  refine List.forall_mem_cons.mpr ⟨ze_if_eq (off := 7) (by decide +kernel) (by decide), ?_⟩
  refine List.forall_mem_cons.mpr ⟨ze_iconst (n := 1) (by decide +kernel) (by decide), ?_⟩
  refine List.forall_mem_cons.mpr ⟨ze_goto (off := 4) (by decide +kernel) (by decide), ?_⟩
  refine List.forall_mem_cons.mpr ⟨ze_iconst (n := 0) (by decide +kernel) (by decide), ?_⟩
  refine List.forall_mem_cons.mpr ⟨ze_zret (by decide +kernel) rfl, ?_⟩
  exact fun _ h => absurd h List.not_mem_nil
theorem vX12_isNode {l : Launch} {G : GT} {d : Nat} {av : List Value} {Q : Po} {σ : Mm} (cs : List (Nat × List Nat)) (k : Nat) (h : vc l G d mX12_isNode TX12_isNode Q cs k TX12_isNode (lv_args 0 av) [] σ) (hlen : (lg_sl av).length ≤ mX12_isNode.2.2.1 := by exact Nat.le_of_ble_eq_true rfl) : MW l G d mX12_isNode av σ Q := mw_vc TX12_isNode_ok mc_X12_isNode rfl hlen cs k rfl h
theorem wX12_isNode {l : Launch} {G : GT} {d : Nat} {Q : Po} {pc : Nat} {lv : Lv} {st : List Value} {σ : Mm} (cs : List (Nat × List Nat)) (k : Nat) (h : vc l G d mX12_isNode TX12_isNode Q cs k (drp TX12_isNode pc) lv st σ) (hpc : hdp (drp TX12_isNode pc) = pc := by rfl) : Wp l G d mX12_isNode pc lv st σ Q := wp_vc TX12_isNode_ok cs k hpc h
def TX12_bound : List In := [(0, 1, zt_iload 0), (1, 4, zt_if_ge 8), (4, 5, zt_ic 0), (5, 8, zt_goto 22), (8, 9, zt_iload 0), (9, 12, zt_ic 999), (12, 15, zt_icmp_le 21), (15, 18, zt_ic 999), (18, 21, zt_goto 22), (21, 22, zt_iload 0), (22, 23, zt_iret)]
theorem TX12_bound_ok : ∀ i ∈ TX12_bound, Ent mX12_bound i := by
  refine List.forall_mem_cons.mpr ⟨ze_iload_n (k := 0) (by decide +kernel) rfl, ?_⟩
  refine List.forall_mem_cons.mpr ⟨ze_if_ge (off := 7) (by decide +kernel) (by decide), ?_⟩
  refine List.forall_mem_cons.mpr ⟨ze_iconst (n := 0) (by decide +kernel) (by decide), ?_⟩
  refine List.forall_mem_cons.mpr ⟨ze_goto (off := 17) (by decide +kernel) (by decide), ?_⟩
  refine List.forall_mem_cons.mpr ⟨ze_iload_n (k := 0) (by decide +kernel) rfl, ?_⟩
  refine List.forall_mem_cons.mpr ⟨ze_sipush (n := 999) (by decide +kernel) (by decide), ?_⟩
  refine List.forall_mem_cons.mpr ⟨ze_icmp_le (off := 9) (by decide +kernel) (by decide), ?_⟩
  refine List.forall_mem_cons.mpr ⟨ze_sipush (n := 999) (by decide +kernel) (by decide), ?_⟩
  refine List.forall_mem_cons.mpr ⟨ze_goto (off := 4) (by decide +kernel) (by decide), ?_⟩
  refine List.forall_mem_cons.mpr ⟨ze_iload_n (k := 0) (by decide +kernel) rfl, ?_⟩
  refine List.forall_mem_cons.mpr ⟨ze_iret (by decide +kernel) rfl, ?_⟩
  exact fun _ h => absurd h List.not_mem_nil
theorem vX12_bound {l : Launch} {G : GT} {d : Nat} {av : List Value} {Q : Po} {σ : Mm} (cs : List (Nat × List Nat)) (k : Nat) (h : vc l G d mX12_bound TX12_bound Q cs k TX12_bound (lv_args 0 av) [] σ) (hlen : (lg_sl av).length ≤ mX12_bound.2.2.1 := by exact Nat.le_of_ble_eq_true rfl) : MW l G d mX12_bound av σ Q := mw_vc TX12_bound_ok mc_X12_bound rfl hlen cs k rfl h
theorem wX12_bound {l : Launch} {G : GT} {d : Nat} {Q : Po} {pc : Nat} {lv : Lv} {st : List Value} {σ : Mm} (cs : List (Nat × List Nat)) (k : Nat) (h : vc l G d mX12_bound TX12_bound Q cs k (drp TX12_bound pc) lv st σ) (hpc : hdp (drp TX12_bound pc) = pc := by rfl) : Wp l G d mX12_bound pc lv st σ Q := wp_vc TX12_bound_ok cs k hpc h
def TX12_rateOf : List In := [(0, 1, zt_aload 1), (1, 3, zt_ic 25), (3, 4, zt_iload 2), (4, 5, zt_iload 3), (5, 8, zt_callSF mX12_node 2), (8, 9, zt_iadd), (9, 10, zt_iald), (10, 12, zt_istoreF 4), (12, 14, zt_iload 4), (14, 15, zt_ic (-1)), (15, 18, zt_icmp_eq 23), (18, 20, zt_iload 4), (20, 23, zt_goto 52), (23, 24, zt_aload 0), (24, 27, zt_getL 20 6), (27, 28, zt_ic 3), (28, 29, zt_iald), (29, 30, zt_iload 3), (30, 31, zt_aload 0), (31, 34, zt_getL 20 6), (34, 35, zt_ic 4), (35, 36, zt_iald), (36, 37, zt_imul), (37, 38, zt_iadd), (38, 39, zt_iload 2), (39, 40, zt_iload 3), (40, 41, zt_isub), (41, 42, zt_aload 0), (42, 45, zt_getL 20 6), (45, 46, zt_ic 5), (46, 47, zt_iald), (47, 48, zt_imul), (48, 49, zt_isub), (49, 52, zt_callSF mX12_bound 1), (52, 54, zt_istoreF 5), (54, 56, zt_iload 5), (56, 57, zt_aload 0), (57, 60, zt_getI 20 27), (60, 61, zt_iadd), (61, 64, zt_callSF mX12_bound 1), (64, 65, zt_iret)]
theorem TX12_rateOf_ok : ∀ i ∈ TX12_rateOf, Ent mX12_rateOf i := by
  refine List.forall_mem_cons.mpr ⟨ze_aload_n (k := 1) (by decide +kernel) rfl, ?_⟩
  refine List.forall_mem_cons.mpr ⟨ze_bipush (n := 25) (by decide +kernel) (by decide), ?_⟩
  refine List.forall_mem_cons.mpr ⟨ze_iload_n (k := 2) (by decide +kernel) rfl, ?_⟩
  refine List.forall_mem_cons.mpr ⟨ze_iload_n (k := 3) (by decide +kernel) rfl, ?_⟩
  refine List.forall_mem_cons.mpr ⟨ze_callSF (idx := 210) (by decide +kernel) ml_X12_210 ms_X12_node, ?_⟩
  refine List.forall_mem_cons.mpr ⟨ze_iadd (by decide +kernel), ?_⟩
  refine List.forall_mem_cons.mpr ⟨ze_iald (by decide +kernel), ?_⟩
  refine List.forall_mem_cons.mpr ⟨ze_istoreF (by decide +kernel) (by decide), ?_⟩
  refine List.forall_mem_cons.mpr ⟨ze_iload (by decide +kernel), ?_⟩
  refine List.forall_mem_cons.mpr ⟨ze_iconst (n := -1) (by decide +kernel) (by decide), ?_⟩
  refine List.forall_mem_cons.mpr ⟨ze_icmp_eq (off := 8) (by decide +kernel) (by decide), ?_⟩
  refine List.forall_mem_cons.mpr ⟨ze_iload (by decide +kernel), ?_⟩
  refine List.forall_mem_cons.mpr ⟨ze_goto (off := 32) (by decide +kernel) (by decide), ?_⟩
  refine List.forall_mem_cons.mpr ⟨ze_aload_n (k := 0) (by decide +kernel) rfl, ?_⟩
  refine List.forall_mem_cons.mpr ⟨ze_getL (by decide +kernel) fl_X12_17 rfl (by decide), ?_⟩
  refine List.forall_mem_cons.mpr ⟨ze_iconst (n := 3) (by decide +kernel) (by decide), ?_⟩
  refine List.forall_mem_cons.mpr ⟨ze_iald (by decide +kernel), ?_⟩
  refine List.forall_mem_cons.mpr ⟨ze_iload_n (k := 3) (by decide +kernel) rfl, ?_⟩
  refine List.forall_mem_cons.mpr ⟨ze_aload_n (k := 0) (by decide +kernel) rfl, ?_⟩
  refine List.forall_mem_cons.mpr ⟨ze_getL (by decide +kernel) fl_X12_17 rfl (by decide), ?_⟩
  refine List.forall_mem_cons.mpr ⟨ze_iconst (n := 4) (by decide +kernel) (by decide), ?_⟩
  refine List.forall_mem_cons.mpr ⟨ze_iald (by decide +kernel), ?_⟩
  refine List.forall_mem_cons.mpr ⟨ze_imul (by decide +kernel), ?_⟩
  refine List.forall_mem_cons.mpr ⟨ze_iadd (by decide +kernel), ?_⟩
  refine List.forall_mem_cons.mpr ⟨ze_iload_n (k := 2) (by decide +kernel) rfl, ?_⟩
  refine List.forall_mem_cons.mpr ⟨ze_iload_n (k := 3) (by decide +kernel) rfl, ?_⟩
  refine List.forall_mem_cons.mpr ⟨ze_isub (by decide +kernel), ?_⟩
  refine List.forall_mem_cons.mpr ⟨ze_aload_n (k := 0) (by decide +kernel) rfl, ?_⟩
  refine List.forall_mem_cons.mpr ⟨ze_getL (by decide +kernel) fl_X12_17 rfl (by decide), ?_⟩
  refine List.forall_mem_cons.mpr ⟨ze_iconst (n := 5) (by decide +kernel) (by decide), ?_⟩
  refine List.forall_mem_cons.mpr ⟨ze_iald (by decide +kernel), ?_⟩
  refine List.forall_mem_cons.mpr ⟨ze_imul (by decide +kernel), ?_⟩
  refine List.forall_mem_cons.mpr ⟨ze_isub (by decide +kernel), ?_⟩
  refine List.forall_mem_cons.mpr ⟨ze_callSF (idx := 231) (by decide +kernel) ml_X12_231 ms_X12_bound, ?_⟩
  refine List.forall_mem_cons.mpr ⟨ze_istoreF (by decide +kernel) (by decide), ?_⟩
  refine List.forall_mem_cons.mpr ⟨ze_iload (by decide +kernel), ?_⟩
  refine List.forall_mem_cons.mpr ⟨ze_aload_n (k := 0) (by decide +kernel) rfl, ?_⟩
  refine List.forall_mem_cons.mpr ⟨ze_getI (by decide +kernel) fl_X12_234 rfl, ?_⟩
  refine List.forall_mem_cons.mpr ⟨ze_iadd (by decide +kernel), ?_⟩
  refine List.forall_mem_cons.mpr ⟨ze_callSF (idx := 231) (by decide +kernel) ml_X12_231 ms_X12_bound, ?_⟩
  refine List.forall_mem_cons.mpr ⟨ze_iret (by decide +kernel) rfl, ?_⟩
  exact fun _ h => absurd h List.not_mem_nil
theorem vX12_rateOf {l : Launch} {G : GT} {d : Nat} {av : List Value} {Q : Po} {σ : Mm} (cs : List (Nat × List Nat)) (k : Nat) (h : vc l G d mX12_rateOf TX12_rateOf Q cs k TX12_rateOf (lv_args 0 av) [] σ) (hlen : (lg_sl av).length ≤ mX12_rateOf.2.2.1 := by exact Nat.le_of_ble_eq_true rfl) : MW l G d mX12_rateOf av σ Q := mw_vc TX12_rateOf_ok mc_X12_rateOf rfl hlen cs k rfl h
theorem wX12_rateOf {l : Launch} {G : GT} {d : Nat} {Q : Po} {pc : Nat} {lv : Lv} {st : List Value} {σ : Mm} (cs : List (Nat × List Nat)) (k : Nat) (h : vc l G d mX12_rateOf TX12_rateOf Q cs k (drp TX12_rateOf pc) lv st σ) (hpc : hdp (drp TX12_rateOf pc) = pc := by rfl) : Wp l G d mX12_rateOf pc lv st σ Q := wp_vc TX12_rateOf_ok cs k hpc h
def TX12_newCoupon : List In := [(0, 1, zt_aload 0), (1, 2, zt_aload 1), (2, 3, zt_iload 2), (3, 4, zt_iload 3), (4, 7, zt_callVF mX12_rateOf 3 20), (7, 8, zt_aload 0), (8, 11, zt_getL 20 6), (11, 13, zt_ic 12), (13, 14, zt_iald), (14, 15, zt_iadd), (15, 17, zt_istoreF 4), (17, 19, zt_iload 4), (19, 22, zt_ic 999), (22, 25, zt_icmp_le 31), (25, 28, zt_ic 999), (28, 31, zt_goto 33), (31, 33, zt_iload 4), (33, 34, zt_iret)]
theorem TX12_newCoupon_ok : ∀ i ∈ TX12_newCoupon, Ent mX12_newCoupon i := by
  refine List.forall_mem_cons.mpr ⟨ze_aload_n (k := 0) (by decide +kernel) rfl, ?_⟩
  refine List.forall_mem_cons.mpr ⟨ze_aload_n (k := 1) (by decide +kernel) rfl, ?_⟩
  refine List.forall_mem_cons.mpr ⟨ze_iload_n (k := 2) (by decide +kernel) rfl, ?_⟩
  refine List.forall_mem_cons.mpr ⟨ze_iload_n (k := 3) (by decide +kernel) rfl, ?_⟩
  refine List.forall_mem_cons.mpr ⟨ze_callVF (idx := 237) (by decide +kernel) ml_X12_237 mv_X12_rateOf rfl, ?_⟩
  refine List.forall_mem_cons.mpr ⟨ze_aload_n (k := 0) (by decide +kernel) rfl, ?_⟩
  refine List.forall_mem_cons.mpr ⟨ze_getL (by decide +kernel) fl_X12_17 rfl (by decide), ?_⟩
  refine List.forall_mem_cons.mpr ⟨ze_bipush (n := 12) (by decide +kernel) (by decide), ?_⟩
  refine List.forall_mem_cons.mpr ⟨ze_iald (by decide +kernel), ?_⟩
  refine List.forall_mem_cons.mpr ⟨ze_iadd (by decide +kernel), ?_⟩
  refine List.forall_mem_cons.mpr ⟨ze_istoreF (by decide +kernel) (by decide), ?_⟩
  refine List.forall_mem_cons.mpr ⟨ze_iload (by decide +kernel), ?_⟩
  refine List.forall_mem_cons.mpr ⟨ze_sipush (n := 999) (by decide +kernel) (by decide), ?_⟩
  refine List.forall_mem_cons.mpr ⟨ze_icmp_le (off := 9) (by decide +kernel) (by decide), ?_⟩
  refine List.forall_mem_cons.mpr ⟨ze_sipush (n := 999) (by decide +kernel) (by decide), ?_⟩
  refine List.forall_mem_cons.mpr ⟨ze_goto (off := 5) (by decide +kernel) (by decide), ?_⟩
  refine List.forall_mem_cons.mpr ⟨ze_iload (by decide +kernel), ?_⟩
  refine List.forall_mem_cons.mpr ⟨ze_iret (by decide +kernel) rfl, ?_⟩
  exact fun _ h => absurd h List.not_mem_nil
theorem vX12_newCoupon {l : Launch} {G : GT} {d : Nat} {av : List Value} {Q : Po} {σ : Mm} (cs : List (Nat × List Nat)) (k : Nat) (h : vc l G d mX12_newCoupon TX12_newCoupon Q cs k TX12_newCoupon (lv_args 0 av) [] σ) (hlen : (lg_sl av).length ≤ mX12_newCoupon.2.2.1 := by exact Nat.le_of_ble_eq_true rfl) : MW l G d mX12_newCoupon av σ Q := mw_vc TX12_newCoupon_ok mc_X12_newCoupon rfl hlen cs k rfl h
theorem wX12_newCoupon {l : Launch} {G : GT} {d : Nat} {Q : Po} {pc : Nat} {lv : Lv} {st : List Value} {σ : Mm} (cs : List (Nat × List Nat)) (k : Nat) (h : vc l G d mX12_newCoupon TX12_newCoupon Q cs k (drp TX12_newCoupon pc) lv st σ) (hpc : hdp (drp TX12_newCoupon pc) = pc := by rfl) : Wp l G d mX12_newCoupon pc lv st σ Q := wp_vc TX12_newCoupon_ok cs k hpc h
def TX12_canCome : List In := [(0, 1, zt_iload 1), (1, 2, zt_aload 0), (2, 3, zt_ic 0), (3, 4, zt_iald), (4, 7, zt_icmp_lt 31), (7, 8, zt_iload 2), (8, 9, zt_aload 0), (9, 10, zt_ic 1), (10, 11, zt_iald), (11, 14, zt_icmp_lt 31), (14, 15, zt_iload 2), (15, 16, zt_aload 0), (16, 17, zt_ic 1), (17, 18, zt_iald), (18, 19, zt_isub), (19, 20, zt_iload 1), (20, 21, zt_aload 0), (21, 22, zt_ic 0), (22, 23, zt_iald), (23, 24, zt_isub), (24, 27, zt_icmp_gt 31), (27, 28, zt_ic 1), (28, 31, zt_goto 32), (31, 32, zt_ic 0), (32, 33, zt_zret)]
theorem TX12_canCome_ok : ∀ i ∈ TX12_canCome, Ent mX12_canCome i := by
  refine List.forall_mem_cons.mpr ⟨ze_iload_n (k := 1) (by decide +kernel) rfl, ?_⟩
  refine List.forall_mem_cons.mpr ⟨ze_aload_n (k := 0) (by decide +kernel) rfl, ?_⟩
  refine List.forall_mem_cons.mpr ⟨ze_iconst (n := 0) (by decide +kernel) (by decide), ?_⟩
  refine List.forall_mem_cons.mpr ⟨ze_iald (by decide +kernel), ?_⟩
  refine List.forall_mem_cons.mpr ⟨ze_icmp_lt (off := 27) (by decide +kernel) (by decide), ?_⟩
  refine List.forall_mem_cons.mpr ⟨ze_iload_n (k := 2) (by decide +kernel) rfl, ?_⟩
  refine List.forall_mem_cons.mpr ⟨ze_aload_n (k := 0) (by decide +kernel) rfl, ?_⟩
  refine List.forall_mem_cons.mpr ⟨ze_iconst (n := 1) (by decide +kernel) (by decide), ?_⟩
  refine List.forall_mem_cons.mpr ⟨ze_iald (by decide +kernel), ?_⟩
  refine List.forall_mem_cons.mpr ⟨ze_icmp_lt (off := 20) (by decide +kernel) (by decide), ?_⟩
  refine List.forall_mem_cons.mpr ⟨ze_iload_n (k := 2) (by decide +kernel) rfl, ?_⟩
  refine List.forall_mem_cons.mpr ⟨ze_aload_n (k := 0) (by decide +kernel) rfl, ?_⟩
  refine List.forall_mem_cons.mpr ⟨ze_iconst (n := 1) (by decide +kernel) (by decide), ?_⟩
  refine List.forall_mem_cons.mpr ⟨ze_iald (by decide +kernel), ?_⟩
  refine List.forall_mem_cons.mpr ⟨ze_isub (by decide +kernel), ?_⟩
  refine List.forall_mem_cons.mpr ⟨ze_iload_n (k := 1) (by decide +kernel) rfl, ?_⟩
  refine List.forall_mem_cons.mpr ⟨ze_aload_n (k := 0) (by decide +kernel) rfl, ?_⟩
  refine List.forall_mem_cons.mpr ⟨ze_iconst (n := 0) (by decide +kernel) (by decide), ?_⟩
  refine List.forall_mem_cons.mpr ⟨ze_iald (by decide +kernel), ?_⟩
  refine List.forall_mem_cons.mpr ⟨ze_isub (by decide +kernel), ?_⟩
  refine List.forall_mem_cons.mpr ⟨ze_icmp_gt (off := 7) (by decide +kernel) (by decide), ?_⟩
  refine List.forall_mem_cons.mpr ⟨ze_iconst (n := 1) (by decide +kernel) (by decide), ?_⟩
  refine List.forall_mem_cons.mpr ⟨ze_goto (off := 4) (by decide +kernel) (by decide), ?_⟩
  refine List.forall_mem_cons.mpr ⟨ze_iconst (n := 0) (by decide +kernel) (by decide), ?_⟩
  refine List.forall_mem_cons.mpr ⟨ze_zret (by decide +kernel) rfl, ?_⟩
  exact fun _ h => absurd h List.not_mem_nil
theorem vX12_canCome {l : Launch} {G : GT} {d : Nat} {av : List Value} {Q : Po} {σ : Mm} (cs : List (Nat × List Nat)) (k : Nat) (h : vc l G d mX12_canCome TX12_canCome Q cs k TX12_canCome (lv_args 0 av) [] σ) (hlen : (lg_sl av).length ≤ mX12_canCome.2.2.1 := by exact Nat.le_of_ble_eq_true rfl) : MW l G d mX12_canCome av σ Q := mw_vc TX12_canCome_ok mc_X12_canCome rfl hlen cs k rfl h
theorem wX12_canCome {l : Launch} {G : GT} {d : Nat} {Q : Po} {pc : Nat} {lv : Lv} {st : List Value} {σ : Mm} (cs : List (Nat × List Nat)) (k : Nat) (h : vc l G d mX12_canCome TX12_canCome Q cs k (drp TX12_canCome pc) lv st σ) (hpc : hdp (drp TX12_canCome pc) = pc := by rfl) : Wp l G d mX12_canCome pc lv st σ Q := wp_vc TX12_canCome_ok cs k hpc h
def TX12_laysYears : List In := [(0, 1, zt_aload 0), (1, 4, zt_getL 20 28), (4, 5, zt_ic 0), (5, 6, zt_aload 0), (6, 9, zt_getL 20 6), (9, 10, zt_ic 0), (10, 11, zt_iald), (11, 12, zt_iastoreF), (12, 13, zt_aload 0), (13, 16, zt_getL 20 29), (16, 17, zt_ic 0), (17, 18, zt_ic 0), (18, 19, zt_iastoreF), (19, 20, zt_ic 0), (20, 21, zt_istoreF 2), (21, 22, zt_iload 2), (22, 23, zt_aload 0), (23, 26, zt_getL 20 6), (26, 27, zt_ic 1), (27, 28, zt_iald), (28, 31, zt_icmp_gt 160), (31, 32, zt_iload 2), (32, 35, zt_if_le 103), (35, 36, zt_aload 1), (36, 38, zt_ic 12), (38, 39, zt_iload 2), (39, 40, zt_iadd), (40, 41, zt_iald), (41, 42, zt_istoreF 3), (42, 43, zt_aload 0), (43, 46, zt_getL 20 29), (46, 47, zt_iload 2), (47, 48, zt_iload 2), (48, 49, zt_aload 0), (49, 52, zt_getL 20 6), (52, 53, zt_ic 1), (53, 54, zt_iald), (54, 57, zt_icmp_eq 69), (57, 58, zt_iload 3), (58, 59, zt_aload 0), (59, 62, zt_getL 20 28), (62, 63, zt_iload 2), (63, 64, zt_ic 1), (64, 65, zt_isub), (65, 66, zt_iald), (66, 69, zt_icmp_le 80), (69, 70, zt_aload 0), (70, 73, zt_getL 20 28), (73, 74, zt_iload 2), (74, 75, zt_ic 1), (75, 76, zt_isub), (76, 77, zt_iald), (77, 80, zt_goto 81), (80, 81, zt_iload 3), (81, 82, zt_iastoreF), (82, 83, zt_aload 0), (83, 86, zt_getL 20 28), (86, 87, zt_iload 2), (87, 88, zt_aload 0), (88, 91, zt_getL 20 28), (91, 92, zt_iload 2), (92, 93, zt_ic 1), (93, 94, zt_isub), (94, 95, zt_iald), (95, 96, zt_aload 0), (96, 99, zt_getL 20 29), (99, 100, zt_iload 2), (100, 101, zt_iald), (101, 102, zt_isub), (102, 103, zt_iastoreF), (103, 104, zt_aload 0), (104, 107, zt_getL 20 6), (107, 109, zt_ic 7), (109, 110, zt_iald), (110, 111, zt_iload 2), (111, 112, zt_aload 0), (112, 115, zt_getL 20 6), (115, 117, zt_ic 8), (117, 118, zt_iald), (118, 119, zt_imul), (119, 120, zt_isub), (120, 121, zt_istoreF 3), (121, 122, zt_aload 0), (122, 125, zt_getL 20 30), (125, 126, zt_iload 2), (126, 127, zt_aload 0), (127, 130, zt_getL 20 28), (130, 131, zt_iload 2), (131, 132, zt_iald), (132, 133, zt_iload 3), (133, 136, zt_if_ge 140), (136, 137, zt_ic 0), (137, 140, zt_goto 152), (140, 141, zt_aload 0), (141, 144, zt_getL 20 28), (144, 145, zt_iload 2), (145, 146, zt_iald), (146, 147, zt_iload 3), (147, 148, zt_imul), (148, 151, zt_ic 1000), (151, 152, zt_idiv), (152, 153, zt_iadd), (153, 154, zt_iastoreF), (154, 157, zt_iincF 2 1), (157, 160, zt_goto 21), (160, 161, zt_vret)]
theorem TX12_laysYears_ok : ∀ i ∈ TX12_laysYears, Ent mX12_laysYears i := by
  refine List.forall_mem_cons.mpr ⟨ze_aload_n (k := 0) (by decide +kernel) rfl, ?_⟩
  refine List.forall_mem_cons.mpr ⟨ze_getL (by decide +kernel) fl_X12_50 rfl (by decide), ?_⟩
  refine List.forall_mem_cons.mpr ⟨ze_iconst (n := 0) (by decide +kernel) (by decide), ?_⟩
  refine List.forall_mem_cons.mpr ⟨ze_aload_n (k := 0) (by decide +kernel) rfl, ?_⟩
  refine List.forall_mem_cons.mpr ⟨ze_getL (by decide +kernel) fl_X12_17 rfl (by decide), ?_⟩
  refine List.forall_mem_cons.mpr ⟨ze_iconst (n := 0) (by decide +kernel) (by decide), ?_⟩
  refine List.forall_mem_cons.mpr ⟨ze_iald (by decide +kernel), ?_⟩
  refine List.forall_mem_cons.mpr ⟨ze_iastoreF (by decide +kernel), ?_⟩
  refine List.forall_mem_cons.mpr ⟨ze_aload_n (k := 0) (by decide +kernel) rfl, ?_⟩
  refine List.forall_mem_cons.mpr ⟨ze_getL (by decide +kernel) fl_X12_53 rfl (by decide), ?_⟩
  refine List.forall_mem_cons.mpr ⟨ze_iconst (n := 0) (by decide +kernel) (by decide), ?_⟩
  refine List.forall_mem_cons.mpr ⟨ze_iconst (n := 0) (by decide +kernel) (by decide), ?_⟩
  refine List.forall_mem_cons.mpr ⟨ze_iastoreF (by decide +kernel), ?_⟩
  refine List.forall_mem_cons.mpr ⟨ze_iconst (n := 0) (by decide +kernel) (by decide), ?_⟩
  refine List.forall_mem_cons.mpr ⟨ze_istoreF_n (k := 2) (by decide +kernel) rfl (by decide), ?_⟩
  refine List.forall_mem_cons.mpr ⟨ze_iload_n (k := 2) (by decide +kernel) rfl, ?_⟩
  refine List.forall_mem_cons.mpr ⟨ze_aload_n (k := 0) (by decide +kernel) rfl, ?_⟩
  refine List.forall_mem_cons.mpr ⟨ze_getL (by decide +kernel) fl_X12_17 rfl (by decide), ?_⟩
  refine List.forall_mem_cons.mpr ⟨ze_iconst (n := 1) (by decide +kernel) (by decide), ?_⟩
  refine List.forall_mem_cons.mpr ⟨ze_iald (by decide +kernel), ?_⟩
  refine List.forall_mem_cons.mpr ⟨ze_icmp_gt (off := 132) (by decide +kernel) (by decide), ?_⟩
  refine List.forall_mem_cons.mpr ⟨ze_iload_n (k := 2) (by decide +kernel) rfl, ?_⟩
  refine List.forall_mem_cons.mpr ⟨ze_if_le (off := 71) (by decide +kernel) (by decide), ?_⟩
  refine List.forall_mem_cons.mpr ⟨ze_aload_n (k := 1) (by decide +kernel) rfl, ?_⟩
  refine List.forall_mem_cons.mpr ⟨ze_bipush (n := 12) (by decide +kernel) (by decide), ?_⟩
  refine List.forall_mem_cons.mpr ⟨ze_iload_n (k := 2) (by decide +kernel) rfl, ?_⟩
  refine List.forall_mem_cons.mpr ⟨ze_iadd (by decide +kernel), ?_⟩
  refine List.forall_mem_cons.mpr ⟨ze_iald (by decide +kernel), ?_⟩
  refine List.forall_mem_cons.mpr ⟨ze_istoreF_n (k := 3) (by decide +kernel) rfl (by decide), ?_⟩
  refine List.forall_mem_cons.mpr ⟨ze_aload_n (k := 0) (by decide +kernel) rfl, ?_⟩
  refine List.forall_mem_cons.mpr ⟨ze_getL (by decide +kernel) fl_X12_53 rfl (by decide), ?_⟩
  refine List.forall_mem_cons.mpr ⟨ze_iload_n (k := 2) (by decide +kernel) rfl, ?_⟩
  refine List.forall_mem_cons.mpr ⟨ze_iload_n (k := 2) (by decide +kernel) rfl, ?_⟩
  refine List.forall_mem_cons.mpr ⟨ze_aload_n (k := 0) (by decide +kernel) rfl, ?_⟩
  refine List.forall_mem_cons.mpr ⟨ze_getL (by decide +kernel) fl_X12_17 rfl (by decide), ?_⟩
  refine List.forall_mem_cons.mpr ⟨ze_iconst (n := 1) (by decide +kernel) (by decide), ?_⟩
  refine List.forall_mem_cons.mpr ⟨ze_iald (by decide +kernel), ?_⟩
  refine List.forall_mem_cons.mpr ⟨ze_icmp_eq (off := 15) (by decide +kernel) (by decide), ?_⟩
  refine List.forall_mem_cons.mpr ⟨ze_iload_n (k := 3) (by decide +kernel) rfl, ?_⟩
  refine List.forall_mem_cons.mpr ⟨ze_aload_n (k := 0) (by decide +kernel) rfl, ?_⟩
  refine List.forall_mem_cons.mpr ⟨ze_getL (by decide +kernel) fl_X12_50 rfl (by decide), ?_⟩
  refine List.forall_mem_cons.mpr ⟨ze_iload_n (k := 2) (by decide +kernel) rfl, ?_⟩
  refine List.forall_mem_cons.mpr ⟨ze_iconst (n := 1) (by decide +kernel) (by decide), ?_⟩
  refine List.forall_mem_cons.mpr ⟨ze_isub (by decide +kernel), ?_⟩
  refine List.forall_mem_cons.mpr ⟨ze_iald (by decide +kernel), ?_⟩
  refine List.forall_mem_cons.mpr ⟨ze_icmp_le (off := 14) (by decide +kernel) (by decide), ?_⟩
  refine List.forall_mem_cons.mpr ⟨ze_aload_n (k := 0) (by decide +kernel) rfl, ?_⟩
  refine List.forall_mem_cons.mpr ⟨ze_getL (by decide +kernel) fl_X12_50 rfl (by decide), ?_⟩
  refine List.forall_mem_cons.mpr ⟨ze_iload_n (k := 2) (by decide +kernel) rfl, ?_⟩
  refine List.forall_mem_cons.mpr ⟨ze_iconst (n := 1) (by decide +kernel) (by decide), ?_⟩
  refine List.forall_mem_cons.mpr ⟨ze_isub (by decide +kernel), ?_⟩
  refine List.forall_mem_cons.mpr ⟨ze_iald (by decide +kernel), ?_⟩
  refine List.forall_mem_cons.mpr ⟨ze_goto (off := 4) (by decide +kernel) (by decide), ?_⟩
  refine List.forall_mem_cons.mpr ⟨ze_iload_n (k := 3) (by decide +kernel) rfl, ?_⟩
  refine List.forall_mem_cons.mpr ⟨ze_iastoreF (by decide +kernel), ?_⟩
  refine List.forall_mem_cons.mpr ⟨ze_aload_n (k := 0) (by decide +kernel) rfl, ?_⟩
  refine List.forall_mem_cons.mpr ⟨ze_getL (by decide +kernel) fl_X12_50 rfl (by decide), ?_⟩
  refine List.forall_mem_cons.mpr ⟨ze_iload_n (k := 2) (by decide +kernel) rfl, ?_⟩
  refine List.forall_mem_cons.mpr ⟨ze_aload_n (k := 0) (by decide +kernel) rfl, ?_⟩
  refine List.forall_mem_cons.mpr ⟨ze_getL (by decide +kernel) fl_X12_50 rfl (by decide), ?_⟩
  refine List.forall_mem_cons.mpr ⟨ze_iload_n (k := 2) (by decide +kernel) rfl, ?_⟩
  refine List.forall_mem_cons.mpr ⟨ze_iconst (n := 1) (by decide +kernel) (by decide), ?_⟩
  refine List.forall_mem_cons.mpr ⟨ze_isub (by decide +kernel), ?_⟩
  refine List.forall_mem_cons.mpr ⟨ze_iald (by decide +kernel), ?_⟩
  refine List.forall_mem_cons.mpr ⟨ze_aload_n (k := 0) (by decide +kernel) rfl, ?_⟩
  refine List.forall_mem_cons.mpr ⟨ze_getL (by decide +kernel) fl_X12_53 rfl (by decide), ?_⟩
  refine List.forall_mem_cons.mpr ⟨ze_iload_n (k := 2) (by decide +kernel) rfl, ?_⟩
  refine List.forall_mem_cons.mpr ⟨ze_iald (by decide +kernel), ?_⟩
  refine List.forall_mem_cons.mpr ⟨ze_isub (by decide +kernel), ?_⟩
  refine List.forall_mem_cons.mpr ⟨ze_iastoreF (by decide +kernel), ?_⟩
  refine List.forall_mem_cons.mpr ⟨ze_aload_n (k := 0) (by decide +kernel) rfl, ?_⟩
  refine List.forall_mem_cons.mpr ⟨ze_getL (by decide +kernel) fl_X12_17 rfl (by decide), ?_⟩
  refine List.forall_mem_cons.mpr ⟨ze_bipush (n := 7) (by decide +kernel) (by decide), ?_⟩
  refine List.forall_mem_cons.mpr ⟨ze_iald (by decide +kernel), ?_⟩
  refine List.forall_mem_cons.mpr ⟨ze_iload_n (k := 2) (by decide +kernel) rfl, ?_⟩
  refine List.forall_mem_cons.mpr ⟨ze_aload_n (k := 0) (by decide +kernel) rfl, ?_⟩
  refine List.forall_mem_cons.mpr ⟨ze_getL (by decide +kernel) fl_X12_17 rfl (by decide), ?_⟩
  refine List.forall_mem_cons.mpr ⟨ze_bipush (n := 8) (by decide +kernel) (by decide), ?_⟩
  refine List.forall_mem_cons.mpr ⟨ze_iald (by decide +kernel), ?_⟩
  refine List.forall_mem_cons.mpr ⟨ze_imul (by decide +kernel), ?_⟩
  refine List.forall_mem_cons.mpr ⟨ze_isub (by decide +kernel), ?_⟩
  refine List.forall_mem_cons.mpr ⟨ze_istoreF_n (k := 3) (by decide +kernel) rfl (by decide), ?_⟩
  refine List.forall_mem_cons.mpr ⟨ze_aload_n (k := 0) (by decide +kernel) rfl, ?_⟩
  refine List.forall_mem_cons.mpr ⟨ze_getL (by decide +kernel) fl_X12_56 rfl (by decide), ?_⟩
  refine List.forall_mem_cons.mpr ⟨ze_iload_n (k := 2) (by decide +kernel) rfl, ?_⟩
  refine List.forall_mem_cons.mpr ⟨ze_aload_n (k := 0) (by decide +kernel) rfl, ?_⟩
  refine List.forall_mem_cons.mpr ⟨ze_getL (by decide +kernel) fl_X12_50 rfl (by decide), ?_⟩
  refine List.forall_mem_cons.mpr ⟨ze_iload_n (k := 2) (by decide +kernel) rfl, ?_⟩
  refine List.forall_mem_cons.mpr ⟨ze_iald (by decide +kernel), ?_⟩
  refine List.forall_mem_cons.mpr ⟨ze_iload_n (k := 3) (by decide +kernel) rfl, ?_⟩
  refine List.forall_mem_cons.mpr ⟨ze_if_ge (off := 7) (by decide +kernel) (by decide), ?_⟩
  refine List.forall_mem_cons.mpr ⟨ze_iconst (n := 0) (by decide +kernel) (by decide), ?_⟩
  refine List.forall_mem_cons.mpr ⟨ze_goto (off := 15) (by decide +kernel) (by decide), ?_⟩
  refine List.forall_mem_cons.mpr ⟨ze_aload_n (k := 0) (by decide +kernel) rfl, ?_⟩
  refine List.forall_mem_cons.mpr ⟨ze_getL (by decide +kernel) fl_X12_50 rfl (by decide), ?_⟩
  refine List.forall_mem_cons.mpr ⟨ze_iload_n (k := 2) (by decide +kernel) rfl, ?_⟩
  refine List.forall_mem_cons.mpr ⟨ze_iald (by decide +kernel), ?_⟩
  refine List.forall_mem_cons.mpr ⟨ze_iload_n (k := 3) (by decide +kernel) rfl, ?_⟩
  refine List.forall_mem_cons.mpr ⟨ze_imul (by decide +kernel), ?_⟩
  refine List.forall_mem_cons.mpr ⟨ze_sipush (n := 1000) (by decide +kernel) (by decide), ?_⟩
  refine List.forall_mem_cons.mpr ⟨ze_idiv (by decide +kernel), ?_⟩
  refine List.forall_mem_cons.mpr ⟨ze_iadd (by decide +kernel), ?_⟩
  refine List.forall_mem_cons.mpr ⟨ze_iastoreF (by decide +kernel), ?_⟩
  refine List.forall_mem_cons.mpr ⟨ze_iincF (n := 1) (by decide +kernel) (by decide) (by decide), ?_⟩
  refine List.forall_mem_cons.mpr ⟨ze_goto (off := -136) (by decide +kernel) (by decide), ?_⟩
  refine List.forall_mem_cons.mpr ⟨ze_vret (by decide +kernel) rfl, ?_⟩
  exact fun _ h => absurd h List.not_mem_nil
theorem vX12_laysYears {l : Launch} {G : GT} {d : Nat} {av : List Value} {Q : Po} {σ : Mm} (cs : List (Nat × List Nat)) (k : Nat) (h : vc l G d mX12_laysYears TX12_laysYears Q cs k TX12_laysYears (lv_args 0 av) [] σ) (hlen : (lg_sl av).length ≤ mX12_laysYears.2.2.1 := by exact Nat.le_of_ble_eq_true rfl) : MW l G d mX12_laysYears av σ Q := mw_vc TX12_laysYears_ok mc_X12_laysYears rfl hlen cs k rfl h
theorem wX12_laysYears {l : Launch} {G : GT} {d : Nat} {Q : Po} {pc : Nat} {lv : Lv} {st : List Value} {σ : Mm} (cs : List (Nat × List Nat)) (k : Nat) (h : vc l G d mX12_laysYears TX12_laysYears Q cs k (drp TX12_laysYears pc) lv st σ) (hpc : hdp (drp TX12_laysYears pc) = pc := by rfl) : Wp l G d mX12_laysYears pc lv st σ Q := wp_vc TX12_laysYears_ok cs k hpc h
