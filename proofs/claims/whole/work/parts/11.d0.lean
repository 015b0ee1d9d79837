def TX11_feed : List In := [(0, 1, zt_aload 0), (1, 4, zt_getL 19 5), (4, 5, zt_iload 1), (5, 8, zt_callVF mX9_countBytes 1 17), (8, 9, zt_aload 0), (9, 12, zt_getL 19 5), (12, 13, zt_iload 2), (13, 16, zt_callVF mX9_countBytes 1 17), (16, 17, zt_iadd), (17, 18, zt_aload 0), (18, 21, zt_getL 19 5), (21, 22, zt_iload 3), (22, 25, zt_callVF mX9_countBytes 1 17), (25, 26, zt_iadd), (26, 27, zt_aload 0), (27, 30, zt_getL 19 5), (30, 32, zt_iload 4), (32, 35, zt_callVF mX9_countBytes 1 17), (35, 36, zt_iadd), (36, 37, zt_aload 0), (37, 40, zt_getL 19 5), (40, 42, zt_iload 5), (42, 45, zt_callVF mX9_countBytes 1 17), (45, 46, zt_iadd), (46, 48, zt_istoreF 6), (48, 49, zt_aload 0), (49, 52, zt_getL 19 5), (52, 55, zt_getI 17 1), (55, 57, zt_iload 6), (57, 58, zt_iadd), (58, 61, zt_ic 320), (61, 64, zt_icmp_le 66), (64, 65, zt_ic (-1)), (65, 66, zt_iret), (66, 67, zt_aload 0), (67, 70, zt_getL 19 5), (70, 71, zt_iload 1), (71, 74, zt_callVF mX9_addBytes 1 17), (74, 75, zt_aload 0), (75, 78, zt_getL 19 5), (78, 79, zt_iload 2), (79, 82, zt_callVF mX9_addBytes 1 17), (82, 83, zt_aload 0), (83, 86, zt_getL 19 5), (86, 87, zt_iload 3), (87, 90, zt_callVF mX9_addBytes 1 17), (90, 91, zt_aload 0), (91, 94, zt_getL 19 5), (94, 96, zt_iload 4), (96, 99, zt_callVF mX9_addBytes 1 17), (99, 100, zt_aload 0), (100, 103, zt_getL 19 5), (103, 105, zt_iload 5), (105, 108, zt_callVF mX9_addBytes 1 17), (108, 109, zt_aload 0), (109, 112, zt_getL 19 5), (112, 115, zt_getI 17 1), (115, 116, zt_iret)]
theorem TX11_feed_ok : ∀ i ∈ TX11_feed, Ent mX11_feed i := by
  refine List.forall_mem_cons.mpr ⟨ze_aload_n (k := 0) (by decide +kernel) rfl, ?_⟩
  refine List.forall_mem_cons.mpr ⟨ze_getL (by decide +kernel) fl_X11_32 rfl (by decide), ?_⟩
  refine List.forall_mem_cons.mpr ⟨ze_iload_n (k := 1) (by decide +kernel) rfl, ?_⟩
  refine List.forall_mem_cons.mpr ⟨ze_callVF (idx := 93) (by decide +kernel) ml_X11_93 mv_X9_countBytes rfl, ?_⟩
  refine List.forall_mem_cons.mpr ⟨ze_aload_n (k := 0) (by decide +kernel) rfl, ?_⟩
  refine List.forall_mem_cons.mpr ⟨ze_getL (by decide +kernel) fl_X11_32 rfl (by decide), ?_⟩
  refine List.forall_mem_cons.mpr ⟨ze_iload_n (k := 2) (by decide +kernel) rfl, ?_⟩
  refine List.forall_mem_cons.mpr ⟨ze_callVF (idx := 93) (by decide +kernel) ml_X11_93 mv_X9_countBytes rfl, ?_⟩
  refine List.forall_mem_cons.mpr ⟨ze_iadd (by decide +kernel), ?_⟩
  refine List.forall_mem_cons.mpr ⟨ze_aload_n (k := 0) (by decide +kernel) rfl, ?_⟩
  refine List.forall_mem_cons.mpr ⟨ze_getL (by decide +kernel) fl_X11_32 rfl (by decide), ?_⟩
  refine List.forall_mem_cons.mpr ⟨ze_iload_n (k := 3) (by decide +kernel) rfl, ?_⟩
  refine List.forall_mem_cons.mpr ⟨ze_callVF (idx := 93) (by decide +kernel) ml_X11_93 mv_X9_countBytes rfl, ?_⟩
  refine List.forall_mem_cons.mpr ⟨ze_iadd (by decide +kernel), ?_⟩
  refine List.forall_mem_cons.mpr ⟨ze_aload_n (k := 0) (by decide +kernel) rfl, ?_⟩
  refine List.forall_mem_cons.mpr ⟨ze_getL (by decide +kernel) fl_X11_32 rfl (by decide), ?_⟩
  refine List.forall_mem_cons.mpr ⟨ze_iload (by decide +kernel), ?_⟩
  refine List.forall_mem_cons.mpr ⟨ze_callVF (idx := 93) (by decide +kernel) ml_X11_93 mv_X9_countBytes rfl, ?_⟩
  refine List.forall_mem_cons.mpr ⟨ze_iadd (by decide +kernel), ?_⟩
  refine List.forall_mem_cons.mpr ⟨ze_aload_n (k := 0) (by decide +kernel) rfl, ?_⟩
  refine List.forall_mem_cons.mpr ⟨ze_getL (by decide +kernel) fl_X11_32 rfl (by decide), ?_⟩
  refine List.forall_mem_cons.mpr ⟨ze_iload (by decide +kernel), ?_⟩
  refine List.forall_mem_cons.mpr ⟨ze_callVF (idx := 93) (by decide +kernel) ml_X11_93 mv_X9_countBytes rfl, ?_⟩
  refine List.forall_mem_cons.mpr ⟨ze_iadd (by decide +kernel), ?_⟩
  refine List.forall_mem_cons.mpr ⟨ze_istoreF (by decide +kernel) (by decide), ?_⟩
  refine List.forall_mem_cons.mpr ⟨ze_aload_n (k := 0) (by decide +kernel) rfl, ?_⟩
  refine List.forall_mem_cons.mpr ⟨ze_getL (by decide +kernel) fl_X11_32 rfl (by decide), ?_⟩
  refine List.forall_mem_cons.mpr ⟨ze_getI (by decide +kernel) fl_X11_97 rfl, ?_⟩
  refine List.forall_mem_cons.mpr ⟨ze_iload (by decide +kernel), ?_⟩
  refine List.forall_mem_cons.mpr ⟨ze_iadd (by decide +kernel), ?_⟩
  refine List.forall_mem_cons.mpr ⟨ze_sipush (n := 320) (by decide +kernel) (by decide), ?_⟩
  refine List.forall_mem_cons.mpr ⟨ze_icmp_le (off := 5) (by decide +kernel) (by decide), ?_⟩
  refine List.forall_mem_cons.mpr ⟨ze_iconst (n := -1) (by decide +kernel) (by decide), ?_⟩
  refine List.forall_mem_cons.mpr ⟨ze_iret (by decide +kernel) rfl, ?_⟩
  refine List.forall_mem_cons.mpr ⟨ze_aload_n (k := 0) (by decide +kernel) rfl, ?_⟩
  refine List.forall_mem_cons.mpr ⟨ze_getL (by decide +kernel) fl_X11_32 rfl (by decide), ?_⟩
  refine List.forall_mem_cons.mpr ⟨ze_iload_n (k := 1) (by decide +kernel) rfl, ?_⟩
  refine List.forall_mem_cons.mpr ⟨ze_callVF (idx := 101) (by decide +kernel) ml_X11_101 mv_X9_addBytes rfl, ?_⟩
  refine List.forall_mem_cons.mpr ⟨ze_aload_n (k := 0) (by decide +kernel) rfl, ?_⟩
  refine List.forall_mem_cons.mpr ⟨ze_getL (by decide +kernel) fl_X11_32 rfl (by decide), ?_⟩
  refine List.forall_mem_cons.mpr ⟨ze_iload_n (k := 2) (by decide +kernel) rfl, ?_⟩
  refine List.forall_mem_cons.mpr ⟨ze_callVF (idx := 101) (by decide +kernel) ml_X11_101 mv_X9_addBytes rfl, ?_⟩
  refine List.forall_mem_cons.mpr ⟨ze_aload_n (k := 0) (by decide +kernel) rfl, ?_⟩
  refine List.forall_mem_cons.mpr ⟨ze_getL (by decide +kernel) fl_X11_32 rfl (by decide), ?_⟩
  refine List.forall_mem_cons.mpr ⟨ze_iload_n (k := 3) (by decide +kernel) rfl, ?_⟩
  refine List.forall_mem_cons.mpr ⟨ze_callVF (idx := 101) (by decide +kernel) ml_X11_101 mv_X9_addBytes rfl, ?_⟩
  refine List.forall_mem_cons.mpr ⟨ze_aload_n (k := 0) (by decide +kernel) rfl, ?_⟩
  refine List.forall_mem_cons.mpr ⟨ze_getL (by decide +kernel) fl_X11_32 rfl (by decide), ?_⟩
  refine List.forall_mem_cons.mpr ⟨ze_iload (by decide +kernel), ?_⟩
  refine List.forall_mem_cons.mpr ⟨ze_callVF (idx := 101) (by decide +kernel) ml_X11_101 mv_X9_addBytes rfl, ?_⟩
  refine List.forall_mem_cons.mpr ⟨ze_aload_n (k := 0) (by decide +kernel) rfl, ?_⟩
  refine List.forall_mem_cons.mpr ⟨ze_getL (by decide +kernel) fl_X11_32 rfl (by decide), ?_⟩
  refine List.forall_mem_cons.mpr ⟨ze_iload (by decide +kernel), ?_⟩
  refine List.forall_mem_cons.mpr ⟨ze_callVF (idx := 101) (by decide +kernel) ml_X11_101 mv_X9_addBytes rfl, ?_⟩
  refine List.forall_mem_cons.mpr ⟨ze_aload_n (k := 0) (by decide +kernel) rfl, ?_⟩
  refine List.forall_mem_cons.mpr ⟨ze_getL (by decide +kernel) fl_X11_32 rfl (by decide), ?_⟩
  refine List.forall_mem_cons.mpr ⟨ze_getI (by decide +kernel) fl_X11_97 rfl, ?_⟩
  refine List.forall_mem_cons.mpr ⟨ze_iret (by decide +kernel) rfl, ?_⟩
  exact fun _ h => absurd h List.not_mem_nil
theorem vX11_feed {l : Launch} {G : GT} {d : Nat} {av : List Value} {Q : Po} {σ : Mm} (cs : List (Nat × List Nat)) (k : Nat) (h : vc l G d mX11_feed TX11_feed Q cs k TX11_feed (lv_args 0 av) [] σ) (hlen : (lg_sl av).length ≤ mX11_feed.2.2.1 := by exact Nat.le_of_ble_eq_true rfl) : MW l G d mX11_feed av σ Q := mw_vc TX11_feed_ok mc_X11_feed rfl hlen cs k rfl h
theorem wX11_feed {l : Launch} {G : GT} {d : Nat} {Q : Po} {pc : Nat} {lv : Lv} {st : List Value} {σ : Mm} (cs : List (Nat × List Nat)) (k : Nat) (h : vc l G d mX11_feed TX11_feed Q cs k (drp TX11_feed pc) lv st σ) (hpc : hdp (drp TX11_feed pc) = pc := by rfl) : Wp l G d mX11_feed pc lv st σ Q := wp_vc TX11_feed_ok cs k hpc h
def TX11_end : List In := [(0, 1, zt_iload 1), (1, 4, zt_if_lt 15), (4, 5, zt_iload 1), (5, 6, zt_aload 0), (6, 9, zt_getL 19 5), (9, 12, zt_getI 17 1), (12, 15, zt_icmp_le 17), (15, 16, zt_ic 0), (16, 17, zt_zret), (17, 18, zt_aload 0), (18, 21, zt_getL 19 5), (21, 22, zt_iload 1), (22, 25, zt_putI 17 1), (25, 26, zt_ic 1), (26, 27, zt_zret)]
theorem TX11_end_ok : ∀ i ∈ TX11_end, Ent mX11_end i := by
  refine List.forall_mem_cons.mpr ⟨ze_iload_n (k := 1) (by decide +kernel) rfl, ?_⟩
  refine List.forall_mem_cons.mpr ⟨ze_if_lt (off := 14) (by decide +kernel) (by decide), ?_⟩
  refine List.forall_mem_cons.mpr ⟨ze_iload_n (k := 1) (by decide +kernel) rfl, ?_⟩
  refine List.forall_mem_cons.mpr ⟨ze_aload_n (k := 0) (by decide +kernel) rfl, ?_⟩
  refine List.forall_mem_cons.mpr ⟨ze_getL (by decide +kernel) fl_X11_32 rfl (by decide), ?_⟩
  refine List.forall_mem_cons.mpr ⟨ze_getI (by decide +kernel) fl_X11_97 rfl, ?_⟩
  refine List.forall_mem_cons.mpr ⟨ze_icmp_le (off := 5) (by decide +kernel) (by decide), ?_⟩
  refine List.forall_mem_cons.mpr ⟨ze_iconst (n := 0) (by decide +kernel) (by decide), ?_⟩
  refine List.forall_mem_cons.mpr ⟨ze_zret (by decide +kernel) rfl, ?_⟩
  refine List.forall_mem_cons.mpr ⟨ze_aload_n (k := 0) (by decide +kernel) rfl, ?_⟩
  refine List.forall_mem_cons.mpr ⟨ze_getL (by decide +kernel) fl_X11_32 rfl (by decide), ?_⟩
  refine List.forall_mem_cons.mpr ⟨ze_iload_n (k := 1) (by decide +kernel) rfl, ?_⟩
  refine List.forall_mem_cons.mpr ⟨ze_putI (by decide +kernel) fl_X11_97 ⟨_, _, _, rfl, rfl, by decide +kernel⟩ rfl, ?_⟩
  refine List.forall_mem_cons.mpr ⟨ze_iconst (n := 1) (by decide +kernel) (by decide), ?_⟩
  refine List.forall_mem_cons.mpr ⟨ze_zret (by decide +kernel) rfl, ?_⟩
  exact fun _ h => absurd h List.not_mem_nil
theorem vX11_end {l : Launch} {G : GT} {d : Nat} {av : List Value} {Q : Po} {σ : Mm} (cs : List (Nat × List Nat)) (k : Nat) (h : vc l G d mX11_end TX11_end Q cs k TX11_end (lv_args 0 av) [] σ) (hlen : (lg_sl av).length ≤ mX11_end.2.2.1 := by exact Nat.le_of_ble_eq_true rfl) : MW l G d mX11_end av σ Q := mw_vc TX11_end_ok mc_X11_end rfl hlen cs k rfl h
theorem wX11_end {l : Launch} {G : GT} {d : Nat} {Q : Po} {pc : Nat} {lv : Lv} {st : List Value} {σ : Mm} (cs : List (Nat × List Nat)) (k : Nat) (h : vc l G d mX11_end TX11_end Q cs k (drp TX11_end pc) lv st σ) (hpc : hdp (drp TX11_end pc) = pc := by rfl) : Wp l G d mX11_end pc lv st σ Q := wp_vc TX11_end_ok cs k hpc h
def TX11_fault : List In := [(0, 1, zt_iload 1), (1, 4, zt_if_lt 9), (4, 5, zt_iload 1), (5, 6, zt_ic 2), (6, 9, zt_icmp_le 14), (9, 11, zt_ic (-2)), (11, 14, zt_goto 22), (14, 15, zt_aload 0), (15, 18, zt_getL 19 6), (18, 19, zt_iload 1), (19, 22, zt_callVF mX4_examine 1 13), (22, 23, zt_iret)]
theorem TX11_fault_ok : ∀ i ∈ TX11_fault, Ent mX11_fault i := by
  refine List.forall_mem_cons.mpr ⟨ze_iload_n (k := 1) (by decide +kernel) rfl, ?_⟩
  refine List.forall_mem_cons.mpr ⟨ze_if_lt (off := 8) (by decide +kernel) (by decide), ?_⟩
  refine List.forall_mem_cons.mpr ⟨ze_iload_n (k := 1) (by decide +kernel) rfl, ?_⟩
  refine List.forall_mem_cons.mpr ⟨ze_iconst (n := 2) (by decide +kernel) (by decide), ?_⟩
  refine List.forall_mem_cons.mpr ⟨ze_icmp_le (off := 8) (by decide +kernel) (by decide), ?_⟩
  refine List.forall_mem_cons.mpr ⟨ze_bipush (n := -2) (by decide +kernel) (by decide), ?_⟩
  refine List.forall_mem_cons.mpr ⟨ze_goto (off := 11) (by decide +kernel) (by decide), ?_⟩
  refine List.forall_mem_cons.mpr ⟨ze_aload_n (k := 0) (by decide +kernel) rfl, ?_⟩
  refine List.forall_mem_cons.mpr ⟨ze_getL (by decide +kernel) fl_X11_41 rfl (by decide), ?_⟩
  refine List.forall_mem_cons.mpr ⟨ze_iload_n (k := 1) (by decide +kernel) rfl, ?_⟩
  refine List.forall_mem_cons.mpr ⟨ze_callVF (idx := 105) (by decide +kernel) ml_X11_105 mv_X4_examine rfl, ?_⟩
  refine List.forall_mem_cons.mpr ⟨ze_iret (by decide +kernel) rfl, ?_⟩
  exact fun _ h => absurd h List.not_mem_nil
theorem vX11_fault {l : Launch} {G : GT} {d : Nat} {av : List Value} {Q : Po} {σ : Mm} (cs : List (Nat × List Nat)) (k : Nat) (h : vc l G d mX11_fault TX11_fault Q cs k TX11_fault (lv_args 0 av) [] σ) (hlen : (lg_sl av).length ≤ mX11_fault.2.2.1 := by exact Nat.le_of_ble_eq_true rfl) : MW l G d mX11_fault av σ Q := mw_vc TX11_fault_ok mc_X11_fault rfl hlen cs k rfl h
theorem wX11_fault {l : Launch} {G : GT} {d : Nat} {Q : Po} {pc : Nat} {lv : Lv} {st : List Value} {σ : Mm} (cs : List (Nat × List Nat)) (k : Nat) (h : vc l G d mX11_fault TX11_fault Q cs k (drp TX11_fault pc) lv st σ) (hpc : hdp (drp TX11_fault pc) = pc := by rfl) : Wp l G d mX11_fault pc lv st σ Q := wp_vc TX11_fault_ok cs k hpc h
def TX11_text : List In := [(0, 1, zt_iload 1), (1, 4, zt_if_lt 9), (4, 5, zt_iload 1), (5, 6, zt_ic 2), (6, 9, zt_icmp_le 11), (9, 10, zt_ic (-1)), (10, 11, zt_iret), (11, 12, zt_iload 1), (12, 13, zt_ic 1), (13, 16, zt_icmp_ne 27), (16, 17, zt_aload 0), (17, 20, zt_getL 19 7), (20, 23, zt_getI 14 2), (23, 24, zt_ic 4), (24, 27, zt_icmp_ge 39), (27, 28, zt_iload 1), (28, 29, zt_ic 2), (29, 32, zt_icmp_ne 41), (32, 33, zt_aload 0), (33, 36, zt_callVF mX11_noLoan 0 19), (36, 39, zt_if_eq 41), (39, 40, zt_ic (-1)), (40, 41, zt_iret), (41, 42, zt_aload 0), (42, 45, zt_getL 19 6), (45, 46, zt_iload 1), (46, 49, zt_callVF mX4_examine 1 13), (49, 50, zt_ic (-1)), (50, 53, zt_icmp_eq 55), (53, 54, zt_ic (-1)), (54, 55, zt_iret), (55, 56, zt_aload 0), (56, 59, zt_getL 19 5), (59, 60, zt_ic 0), (60, 63, zt_putI 17 1), (63, 64, zt_iload 1), (64, 65, zt_ic 1), (65, 68, zt_icmp_ne 90), (68, 69, zt_aload 0), (69, 72, zt_getL 19 7), (72, 73, zt_aload 0), (73, 76, zt_getL 19 6), (76, 79, zt_getL 13 1), (79, 80, zt_aload 0), (80, 83, zt_getL 19 6), (83, 86, zt_getI 13 2), (86, 89, zt_callVF mX6_take 2 14), (89, 90, zt_iret), (90, 91, zt_iload 1), (91, 94, zt_if_ne 101), (94, 95, zt_aload 0), (95, 98, zt_callVF mX11_takeLoan 0 19), (98, 101, zt_goto 105), (101, 102, zt_aload 0), (102, 105, zt_callVF mX11_takePolicy 0 19), (105, 106, zt_iret)]
theorem TX11_text_ok : ∀ i ∈ TX11_text, Ent mX11_text i := by
  refine List.forall_mem_cons.mpr ⟨ze_iload_n (k := 1) (by decide +kernel) rfl, ?_⟩
  refine List.forall_mem_cons.mpr ⟨ze_if_lt (off := 8) (by decide +kernel) (by decide), ?_⟩
  refine List.forall_mem_cons.mpr ⟨ze_iload_n (k := 1) (by decide +kernel) rfl, ?_⟩
  refine List.forall_mem_cons.mpr ⟨ze_iconst (n := 2) (by decide +kernel) (by decide), ?_⟩
  refine List.forall_mem_cons.mpr ⟨ze_icmp_le (off := 5) (by decide +kernel) (by decide), ?_⟩
  refine List.forall_mem_cons.mpr ⟨ze_iconst (n := -1) (by decide +kernel) (by decide), ?_⟩
  refine List.forall_mem_cons.mpr ⟨ze_iret (by decide +kernel) rfl, ?_⟩
  refine List.forall_mem_cons.mpr ⟨ze_iload_n (k := 1) (by decide +kernel) rfl, ?_⟩
  refine List.forall_mem_cons.mpr ⟨ze_iconst (n := 1) (by decide +kernel) (by decide), ?_⟩
  refine List.forall_mem_cons.mpr ⟨ze_icmp_ne (off := 14) (by decide +kernel) (by decide), ?_⟩
  refine List.forall_mem_cons.mpr ⟨ze_aload_n (k := 0) (by decide +kernel) rfl, ?_⟩
  refine List.forall_mem_cons.mpr ⟨ze_getL (by decide +kernel) fl_X11_48 rfl (by decide), ?_⟩
  refine List.forall_mem_cons.mpr ⟨ze_getI (by decide +kernel) fl_X11_108 rfl, ?_⟩
  refine List.forall_mem_cons.mpr ⟨ze_iconst (n := 4) (by decide +kernel) (by decide), ?_⟩
  refine List.forall_mem_cons.mpr ⟨ze_icmp_ge (off := 15) (by decide +kernel) (by decide), ?_⟩
  refine List.forall_mem_cons.mpr ⟨ze_iload_n (k := 1) (by decide +kernel) rfl, ?_⟩
  refine List.forall_mem_cons.mpr ⟨ze_iconst (n := 2) (by decide +kernel) (by decide), ?_⟩
  refine List.forall_mem_cons.mpr ⟨ze_icmp_ne (off := 12) (by decide +kernel) (by decide), ?_⟩
  refine List.forall_mem_cons.mpr ⟨ze_aload_n (k := 0) (by decide +kernel) rfl, ?_⟩
  refine List.forall_mem_cons.mpr ⟨ze_callVF (idx := 111) (by decide +kernel) ml_X11_111 mv_X11_noLoan rfl, ?_⟩
  refine List.forall_mem_cons.mpr ⟨ze_if_eq (off := 5) (by decide +kernel) (by decide), ?_⟩
  refine List.forall_mem_cons.mpr ⟨ze_iconst (n := -1) (by decide +kernel) (by decide), ?_⟩
  refine List.forall_mem_cons.mpr ⟨ze_iret (by decide +kernel) rfl, ?_⟩
  refine List.forall_mem_cons.mpr ⟨ze_aload_n (k := 0) (by decide +kernel) rfl, ?_⟩
  refine List.forall_mem_cons.mpr ⟨ze_getL (by decide +kernel) fl_X11_41 rfl (by decide), ?_⟩
  refine List.forall_mem_cons.mpr ⟨ze_iload_n (k := 1) (by decide +kernel) rfl, ?_⟩
  refine List.forall_mem_cons.mpr ⟨ze_callVF (idx := 105) (by decide +kernel) ml_X11_105 mv_X4_examine rfl, ?_⟩
  refine List.forall_mem_cons.mpr ⟨ze_iconst (n := -1) (by decide +kernel) (by decide), ?_⟩
  refine List.forall_mem_cons.mpr ⟨ze_icmp_eq (off := 5) (by decide +kernel) (by decide), ?_⟩
  refine List.forall_mem_cons.mpr ⟨ze_iconst (n := -1) (by decide +kernel) (by decide), ?_⟩
  refine List.forall_mem_cons.mpr ⟨ze_iret (by decide +kernel) rfl, ?_⟩
  refine List.forall_mem_cons.mpr ⟨ze_aload_n (k := 0) (by decide +kernel) rfl, ?_⟩
  refine List.forall_mem_cons.mpr ⟨ze_getL (by decide +kernel) fl_X11_32 rfl (by decide), ?_⟩
  refine List.forall_mem_cons.mpr ⟨ze_iconst (n := 0) (by decide +kernel) (by decide), ?_⟩
  refine List.forall_mem_cons.mpr ⟨ze_putI (by decide +kernel) fl_X11_97 ⟨_, _, _, rfl, rfl, by decide +kernel⟩ rfl, ?_⟩
  refine List.forall_mem_cons.mpr ⟨ze_iload_n (k := 1) (by decide +kernel) rfl, ?_⟩
  refine List.forall_mem_cons.mpr ⟨ze_iconst (n := 1) (by decide +kernel) (by decide), ?_⟩
  refine List.forall_mem_cons.mpr ⟨ze_icmp_ne (off := 25) (by decide +kernel) (by decide), ?_⟩
  refine List.forall_mem_cons.mpr ⟨ze_aload_n (k := 0) (by decide +kernel) rfl, ?_⟩
  refine List.forall_mem_cons.mpr ⟨ze_getL (by decide +kernel) fl_X11_48 rfl (by decide), ?_⟩
  refine List.forall_mem_cons.mpr ⟨ze_aload_n (k := 0) (by decide +kernel) rfl, ?_⟩
  refine List.forall_mem_cons.mpr ⟨ze_getL (by decide +kernel) fl_X11_41 rfl (by decide), ?_⟩
  refine List.forall_mem_cons.mpr ⟨ze_getL (by decide +kernel) fl_X11_115 rfl (by decide), ?_⟩
  refine List.forall_mem_cons.mpr ⟨ze_aload_n (k := 0) (by decide +kernel) rfl, ?_⟩
  refine List.forall_mem_cons.mpr ⟨ze_getL (by decide +kernel) fl_X11_41 rfl (by decide), ?_⟩
  refine List.forall_mem_cons.mpr ⟨ze_getI (by decide +kernel) fl_X11_118 rfl, ?_⟩
  refine List.forall_mem_cons.mpr ⟨ze_callVF (idx := 119) (by decide +kernel) ml_X11_119 mv_X6_take rfl, ?_⟩
  refine List.forall_mem_cons.mpr ⟨ze_iret (by decide +kernel) rfl, ?_⟩
  refine List.forall_mem_cons.mpr ⟨ze_iload_n (k := 1) (by decide +kernel) rfl, ?_⟩
  refine List.forall_mem_cons.mpr ⟨ze_if_ne (off := 10) (by decide +kernel) (by decide), ?_⟩
  refine List.forall_mem_cons.mpr ⟨ze_aload_n (k := 0) (by decide +kernel) rfl, ?_⟩
  refine List.forall_mem_cons.mpr ⟨ze_callVF (idx := 123) (by decide +kernel) ml_X11_123 mv_X11_takeLoan rfl, ?_⟩
  refine List.forall_mem_cons.mpr ⟨ze_goto (off := 7) (by decide +kernel) (by decide), ?_⟩
  refine List.forall_mem_cons.mpr ⟨ze_aload_n (k := 0) (by decide +kernel) rfl, ?_⟩
  refine List.forall_mem_cons.mpr ⟨ze_callVF (idx := 127) (by decide +kernel) ml_X11_127 mv_X11_takePolicy rfl, ?_⟩
  refine List.forall_mem_cons.mpr ⟨ze_iret (by decide +kernel) rfl, ?_⟩
  exact fun _ h => absurd h List.not_mem_nil
theorem vX11_text {l : Launch} {G : GT} {d : Nat} {av : List Value} {Q : Po} {σ : Mm} (cs : List (Nat × List Nat)) (k : Nat) (h : vc l G d mX11_text TX11_text Q cs k TX11_text (lv_args 0 av) [] σ) (hlen : (lg_sl av).length ≤ mX11_text.2.2.1 := by exact Nat.le_of_ble_eq_true rfl) : MW l G d mX11_text av σ Q := mw_vc TX11_text_ok mc_X11_text rfl hlen cs k rfl h
theorem wX11_text {l : Launch} {G : GT} {d : Nat} {Q : Po} {pc : Nat} {lv : Lv} {st : List Value} {σ : Mm} (cs : List (Nat × List Nat)) (k : Nat) (h : vc l G d mX11_text TX11_text Q cs k (drp TX11_text pc) lv st σ) (hpc : hdp (drp TX11_text pc) = pc := by rfl) : Wp l G d mX11_text pc lv st σ Q := wp_vc TX11_text_ok cs k hpc h
def TX11_takeLoan : List In := [(0, 1, zt_aload 0), (1, 4, zt_getL 19 6), (4, 7, zt_getL 13 0), (7, 8, zt_ic 0), (8, 9, zt_aload 0), (9, 12, zt_getL 19 0), (12, 13, zt_ic 0), (13, 15, zt_ic 14), (15, 18, zt_copyI), (18, 19, zt_aload 0), (19, 22, zt_getL 19 0), (22, 23, zt_ic 1), (23, 24, zt_iald), (24, 25, zt_istoreF 1), (25, 26, zt_aload 0), (26, 29, zt_getL 19 1), (29, 30, zt_ic 0), (30, 33, zt_callSF mJ7_fill_53178 2), (33, 34, zt_aload 0), (34, 37, zt_getL 19 1), (37, 38, zt_ic 2), (38, 39, zt_aload 0), (39, 42, zt_getL 19 0), (42, 43, zt_ic 2), (43, 44, zt_iald), (44, 45, zt_iastoreF), (45, 46, zt_aload 0), (46, 49, zt_getL 19 1), (49, 50, zt_ic 3), (50, 51, zt_aload 0), (51, 54, zt_getL 19 0), (54, 56, zt_ic 11), (56, 57, zt_iald), (57, 58, zt_iastoreF), (58, 59, zt_ic 0), (59, 60, zt_istoreF 2), (60, 61, zt_iload 2), (61, 62, zt_iload 1), (62, 65, zt_icmp_ge 136), (65, 66, zt_iload 2), (66, 68, zt_ic 12), (68, 71, zt_icmp_ge 136), (71, 72, zt_ic 0), (72, 73, zt_istoreF 3), (73, 74, zt_iload 3), (74, 75, zt_iload 2), (75, 78, zt_icmp_gt 130), (78, 79, zt_aload 0), (79, 82, zt_getL 19 0), (82, 83, zt_ic 3), (83, 84, zt_iald), (84, 85, zt_iload 3), (85, 86, zt_aload 0), (86, 89, zt_getL 19 0), (89, 90, zt_ic 4), (90, 91, zt_iald), (91, 92, zt_imul), (92, 93, zt_iadd), (93, 94, zt_iload 2), (94, 95, zt_iload 3), (95, 96, zt_isub), (96, 97, zt_aload 0), (97, 100, zt_getL 19 0), (100, 101, zt_ic 5), (101, 102, zt_iald), (102, 103, zt_imul), (103, 104, zt_isub), (104, 106, zt_istoreF 4), (106, 107, zt_aload 0), (107, 110, zt_getL 19 1), (110, 112, zt_ic 25), (112, 113, zt_iload 2), (113, 114, zt_iload 3), (114, 117, zt_callSF mX8_nodeOf 2), (117, 118, zt_iadd), (118, 120, zt_iload 4), (120, 123, zt_callSF mX8_bounded 1), (123, 124, zt_iastoreF), (124, 127, zt_iincF 3 1), (127, 130, zt_goto 73), (130, 133, zt_iincF 2 1), (133, 136, zt_goto 60), (136, 137, zt_ic 0), (137, 138, zt_istoreF 2), (138, 139, zt_iload 2), (139, 140, zt_aload 0), (140, 143, zt_getL 19 6), (143, 146, zt_getI 13 2), (146, 149, zt_icmp_ge 195), (149, 150, zt_aload 0), (150, 151, zt_aload 0), (151, 154, zt_getL 19 6), (154, 155, zt_iload 2), (155, 156, zt_ic 0), (156, 159, zt_callVF mX4_part 2 13), (159, 160, zt_aload 0), (160, 163, zt_getL 19 6), (163, 164, zt_iload 2), (164, 165, zt_ic 1), (165, 168, zt_callVF mX4_part 2 13), (168, 169, zt_aload 0), (169, 172, zt_getL 19 6), (172, 173, zt_iload 2), (173, 174, zt_ic 2), (174, 177, zt_callVF mX4_part 2 13), (177, 178, zt_aload 0), (178, 181, zt_getL 19 6), (181, 182, zt_iload 2), (182, 183, zt_ic 3), (183, 186, zt_callVF mX4_part 2 13), (186, 189, zt_callVF mX11_takeClause 4 19), (189, 192, zt_iincF 2 1), (192, 195, zt_goto 138), (195, 196, zt_aload 0), (196, 199, zt_getL 19 10), (199, 202, zt_callVF mX2_clear 0 11), (202, 203, zt_aload 0), (203, 206, zt_getL 19 8), (206, 209, zt_callVF mX8_forget 0 16), (209, 210, zt_iload 1), (210, 211, zt_iret)]
theorem TX11_takeLoan_ok : ∀ i ∈ TX11_takeLoan, Ent mX11_takeLoan i := by
  refine List.forall_mem_cons.mpr ⟨ze_aload_n (k := 0) (by decide +kernel) rfl, ?_⟩
  refine List.forall_mem_cons.mpr ⟨ze_getL (by decide +kernel) fl_X11_41 rfl (by decide), ?_⟩
  refine List.forall_mem_cons.mpr ⟨ze_getL (by decide +kernel) fl_X11_130 rfl (by decide), ?_⟩
  refine List.forall_mem_cons.mpr ⟨ze_iconst (n := 0) (by decide +kernel) (by decide), ?_⟩
  refine List.forall_mem_cons.mpr ⟨ze_aload_n (k := 0) (by decide +kernel) rfl, ?_⟩
  refine List.forall_mem_cons.mpr ⟨ze_getL (by decide +kernel) fl_X11_9 rfl (by decide), ?_⟩
  refine List.forall_mem_cons.mpr ⟨ze_iconst (n := 0) (by decide +kernel) (by decide), ?_⟩
  refine List.forall_mem_cons.mpr ⟨ze_bipush (n := 14) (by decide +kernel) (by decide), ?_⟩
  refine List.forall_mem_cons.mpr ⟨ze_copyI (idx := 133) (by decide +kernel) ml_X11_133 jcp.1 jcp.2.1 jcp.2.2, ?_⟩
  refine List.forall_mem_cons.mpr ⟨ze_aload_n (k := 0) (by decide +kernel) rfl, ?_⟩
  refine List.forall_mem_cons.mpr ⟨ze_getL (by decide +kernel) fl_X11_9 rfl (by decide), ?_⟩
  refine List.forall_mem_cons.mpr ⟨ze_iconst (n := 1) (by decide +kernel) (by decide), ?_⟩
  refine List.forall_mem_cons.mpr ⟨ze_iald (by decide +kernel), ?_⟩
  refine List.forall_mem_cons.mpr ⟨ze_istoreF_n (k := 1) (by decide +kernel) rfl (by decide), ?_⟩
  refine List.forall_mem_cons.mpr ⟨ze_aload_n (k := 0) (by decide +kernel) rfl, ?_⟩
  refine List.forall_mem_cons.mpr ⟨ze_getL (by decide +kernel) fl_X11_17 rfl (by decide), ?_⟩
  refine List.forall_mem_cons.mpr ⟨ze_iconst (n := 0) (by decide +kernel) (by decide), ?_⟩
  refine List.forall_mem_cons.mpr ⟨ze_callSF (idx := 139) (by decide +kernel) ml_X11_139 ms_J7_fill_53178, ?_⟩
  refine List.forall_mem_cons.mpr ⟨ze_aload_n (k := 0) (by decide +kernel) rfl, ?_⟩
  refine List.forall_mem_cons.mpr ⟨ze_getL (by decide +kernel) fl_X11_17 rfl (by decide), ?_⟩
  refine List.forall_mem_cons.mpr ⟨ze_iconst (n := 2) (by decide +kernel) (by decide), ?_⟩
  refine List.forall_mem_cons.mpr ⟨ze_aload_n (k := 0) (by decide +kernel) rfl, ?_⟩
  refine List.forall_mem_cons.mpr ⟨ze_getL (by decide +kernel) fl_X11_9 rfl (by decide), ?_⟩
  refine List.forall_mem_cons.mpr ⟨ze_iconst (n := 2) (by decide +kernel) (by decide), ?_⟩
  refine List.forall_mem_cons.mpr ⟨ze_iald (by decide +kernel), ?_⟩
  refine List.forall_mem_cons.mpr ⟨ze_iastoreF (by decide +kernel), ?_⟩
  refine List.forall_mem_cons.mpr ⟨ze_aload_n (k := 0) (by decide +kernel) rfl, ?_⟩
  refine List.forall_mem_cons.mpr ⟨ze_getL (by decide +kernel) fl_X11_17 rfl (by decide), ?_⟩
  refine List.forall_mem_cons.mpr ⟨ze_iconst (n := 3) (by decide +kernel) (by decide), ?_⟩
  refine List.forall_mem_cons.mpr ⟨ze_aload_n (k := 0) (by decide +kernel) rfl, ?_⟩
  refine List.forall_mem_cons.mpr ⟨ze_getL (by decide +kernel) fl_X11_9 rfl (by decide), ?_⟩
  refine List.forall_mem_cons.mpr ⟨ze_bipush (n := 11) (by decide +kernel) (by decide), ?_⟩
  refine List.forall_mem_cons.mpr ⟨ze_iald (by decide +kernel), ?_⟩
  refine List.forall_mem_cons.mpr ⟨ze_iastoreF (by decide +kernel), ?_⟩
  refine List.forall_mem_cons.mpr ⟨ze_iconst (n := 0) (by decide +kernel) (by decide), ?_⟩
  refine List.forall_mem_cons.mpr ⟨ze_istoreF_n (k := 2) (by decide +kernel) rfl (by decide), ?_⟩
  refine List.forall_mem_cons.mpr ⟨ze_iload_n (k := 2) (by decide +kernel) rfl, ?_⟩
  refine List.forall_mem_cons.mpr ⟨ze_iload_n (k := 1) (by decide +kernel) rfl, ?_⟩
  refine List.forall_mem_cons.mpr ⟨ze_icmp_ge (off := 74) (by decide +kernel) (by decide), ?_⟩
  refine List.forall_mem_cons.mpr ⟨ze_iload_n (k := 2) (by decide +kernel) rfl, ?_⟩
  refine List.forall_mem_cons.mpr ⟨ze_bipush (n := 12) (by decide +kernel) (by decide), ?_⟩
  refine List.forall_mem_cons.mpr ⟨ze_icmp_ge (off := 68) (by decide +kernel) (by decide), ?_⟩
  refine List.forall_mem_cons.mpr ⟨ze_iconst (n := 0) (by decide +kernel) (by decide), ?_⟩
  refine List.forall_mem_cons.mpr ⟨ze_istoreF_n (k := 3) (by decide +kernel) rfl (by decide), ?_⟩
  refine List.forall_mem_cons.mpr ⟨ze_iload_n (k := 3) (by decide +kernel) rfl, ?_⟩
  refine List.forall_mem_cons.mpr ⟨ze_iload_n (k := 2) (by decide +kernel) rfl, ?_⟩
  refine List.forall_mem_cons.mpr ⟨ze_icmp_gt (off := 55) (by decide +kernel) (by decide), ?_⟩
  refine List.forall_mem_cons.mpr ⟨ze_aload_n (k := 0) (by decide +kernel) rfl, ?_⟩
  refine List.forall_mem_cons.mpr ⟨ze_getL (by decide +kernel) fl_X11_9 rfl (by decide), ?_⟩
  refine List.forall_mem_cons.mpr ⟨ze_iconst (n := 3) (by decide +kernel) (by decide), ?_⟩
  refine List.forall_mem_cons.mpr ⟨ze_iald (by decide +kernel), ?_⟩
  refine List.forall_mem_cons.mpr ⟨ze_iload_n (k := 3) (by decide +kernel) rfl, ?_⟩
  refine List.forall_mem_cons.mpr ⟨ze_aload_n (k := 0) (by decide +kernel) rfl, ?_⟩
  refine List.forall_mem_cons.mpr ⟨ze_getL (by decide +kernel) fl_X11_9 rfl (by decide), ?_⟩
  refine List.forall_mem_cons.mpr ⟨ze_iconst (n := 4) (by decide +kernel) (by decide), ?_⟩
  refine List.forall_mem_cons.mpr ⟨ze_iald (by decide +kernel), ?_⟩
  refine List.forall_mem_cons.mpr ⟨ze_imul (by decide +kernel), ?_⟩
  refine List.forall_mem_cons.mpr ⟨ze_iadd (by decide +kernel), ?_⟩
  refine List.forall_mem_cons.mpr ⟨ze_iload_n (k := 2) (by decide +kernel) rfl, ?_⟩
  refine List.forall_mem_cons.mpr ⟨ze_iload_n (k := 3) (by decide +kernel) rfl, ?_⟩
  refine List.forall_mem_cons.mpr ⟨ze_isub (by decide +kernel), ?_⟩
  refine List.forall_mem_cons.mpr ⟨ze_aload_n (k := 0) (by decide +kernel) rfl, ?_⟩
  refine List.forall_mem_cons.mpr ⟨ze_getL (by decide +kernel) fl_X11_9 rfl (by decide), ?_⟩
  refine List.forall_mem_cons.mpr ⟨ze_iconst (n := 5) (by decide +kernel) (by decide), ?_⟩
  refine List.forall_mem_cons.mpr ⟨ze_iald (by decide +kernel), ?_⟩
  refine List.forall_mem_cons.mpr ⟨ze_imul (by decide +kernel), ?_⟩
  refine List.forall_mem_cons.mpr ⟨ze_isub (by decide +kernel), ?_⟩
  refine List.forall_mem_cons.mpr ⟨ze_istoreF (by decide +kernel) (by decide), ?_⟩
  refine List.forall_mem_cons.mpr ⟨ze_aload_n (k := 0) (by decide +kernel) rfl, ?_⟩
  refine List.forall_mem_cons.mpr ⟨ze_getL (by decide +kernel) fl_X11_17 rfl (by decide), ?_⟩
  refine List.forall_mem_cons.mpr ⟨ze_bipush (n := 25) (by decide +kernel) (by decide), ?_⟩
  refine List.forall_mem_cons.mpr ⟨ze_iload_n (k := 2) (by decide +kernel) rfl, ?_⟩
  refine List.forall_mem_cons.mpr ⟨ze_iload_n (k := 3) (by decide +kernel) rfl, ?_⟩
  refine List.forall_mem_cons.mpr ⟨ze_callSF (idx := 145) (by decide +kernel) ml_X11_145 ms_X8_nodeOf, ?_⟩
  refine List.forall_mem_cons.mpr ⟨ze_iadd (by decide +kernel), ?_⟩
  refine List.forall_mem_cons.mpr ⟨ze_iload (by decide +kernel), ?_⟩
  refine List.forall_mem_cons.mpr ⟨ze_callSF (idx := 149) (by decide +kernel) ml_X11_149 ms_X8_bounded, ?_⟩
  refine List.forall_mem_cons.mpr ⟨ze_iastoreF (by decide +kernel), ?_⟩
  refine List.forall_mem_cons.mpr ⟨ze_iincF (n := 1) (by decide +kernel) (by decide) (by decide), ?_⟩
  refine List.forall_mem_cons.mpr ⟨ze_goto (off := -54) (by decide +kernel) (by decide), ?_⟩
  refine List.forall_mem_cons.mpr ⟨ze_iincF (n := 1) (by decide +kernel) (by decide) (by decide), ?_⟩
  refine List.forall_mem_cons.mpr ⟨ze_goto (off := -73) (by decide +kernel) (by decide), ?_⟩
  refine List.forall_mem_cons.mpr ⟨ze_iconst (n := 0) (by decide +kernel) (by decide), ?_⟩
  refine List.forall_mem_cons.mpr ⟨ze_istoreF_n (k := 2) (by decide +kernel) rfl (by decide), ?_⟩
  refine List.forall_mem_cons.mpr ⟨ze_iload_n (k := 2) (by decide +kernel) rfl, ?_⟩
  refine List.forall_mem_cons.mpr ⟨ze_aload_n (k := 0) (by decide +kernel) rfl, ?_⟩
  refine List.forall_mem_cons.mpr ⟨ze_getL (by decide +kernel) fl_X11_41 rfl (by decide), ?_⟩
  refine List.forall_mem_cons.mpr ⟨ze_getI (by decide +kernel) fl_X11_118 rfl, ?_⟩
  refine List.forall_mem_cons.mpr ⟨ze_icmp_ge (off := 49) (by decide +kernel) (by decide), ?_⟩
  refine List.forall_mem_cons.mpr ⟨ze_aload_n (k := 0) (by decide +kernel) rfl, ?_⟩
  refine List.forall_mem_cons.mpr ⟨ze_aload_n (k := 0) (by decide +kernel) rfl, ?_⟩
  refine List.forall_mem_cons.mpr ⟨ze_getL (by decide +kernel) fl_X11_41 rfl (by decide), ?_⟩
  refine List.forall_mem_cons.mpr ⟨ze_iload_n (k := 2) (by decide +kernel) rfl, ?_⟩
  refine List.forall_mem_cons.mpr ⟨ze_iconst (n := 0) (by decide +kernel) (by decide), ?_⟩
  refine List.forall_mem_cons.mpr ⟨ze_callVF (idx := 152) (by decide +kernel) ml_X11_152 mv_X4_part rfl, ?_⟩
  refine List.forall_mem_cons.mpr ⟨ze_aload_n (k := 0) (by decide +kernel) rfl, ?_⟩
  refine List.forall_mem_cons.mpr ⟨ze_getL (by decide +kernel) fl_X11_41 rfl (by decide), ?_⟩
  refine List.forall_mem_cons.mpr ⟨ze_iload_n (k := 2) (by decide +kernel) rfl, ?_⟩
  refine List.forall_mem_cons.mpr ⟨ze_iconst (n := 1) (by decide +kernel) (by decide), ?_⟩
  refine List.forall_mem_cons.mpr ⟨ze_callVF (idx := 152) (by decide +kernel) ml_X11_152 mv_X4_part rfl, ?_⟩
  refine List.forall_mem_cons.mpr ⟨ze_aload_n (k := 0) (by decide +kernel) rfl, ?_⟩
  refine List.forall_mem_cons.mpr ⟨ze_getL (by decide +kernel) fl_X11_41 rfl (by decide), ?_⟩
  refine List.forall_mem_cons.mpr ⟨ze_iload_n (k := 2) (by decide +kernel) rfl, ?_⟩
  refine List.forall_mem_cons.mpr ⟨ze_iconst (n := 2) (by decide +kernel) (by decide), ?_⟩
  refine List.forall_mem_cons.mpr ⟨ze_callVF (idx := 152) (by decide +kernel) ml_X11_152 mv_X4_part rfl, ?_⟩
  refine List.forall_mem_cons.mpr ⟨ze_aload_n (k := 0) (by decide +kernel) rfl, ?_⟩
  refine List.forall_mem_cons.mpr ⟨ze_getL (by decide +kernel) fl_X11_41 rfl (by decide), ?_⟩
  refine List.forall_mem_cons.mpr ⟨ze_iload_n (k := 2) (by decide +kernel) rfl, ?_⟩
  refine List.forall_mem_cons.mpr ⟨ze_iconst (n := 3) (by decide +kernel) (by decide), ?_⟩
  refine List.forall_mem_cons.mpr ⟨ze_callVF (idx := 152) (by decide +kernel) ml_X11_152 mv_X4_part rfl, ?_⟩
  refine List.forall_mem_cons.mpr ⟨ze_callVF (idx := 155) (by decide +kernel) ml_X11_155 mv_X11_takeClause rfl, ?_⟩
  refine List.forall_mem_cons.mpr ⟨ze_iincF (n := 1) (by decide +kernel) (by decide) (by decide), ?_⟩
  refine List.forall_mem_cons.mpr ⟨ze_goto (off := -54) (by decide +kernel) (by decide), ?_⟩
  refine List.forall_mem_cons.mpr ⟨ze_aload_n (k := 0) (by decide +kernel) rfl, ?_⟩
  refine List.forall_mem_cons.mpr ⟨ze_getL (by decide +kernel) fl_X11_73 rfl (by decide), ?_⟩
  refine List.forall_mem_cons.mpr ⟨ze_callVF (idx := 159) (by decide +kernel) ml_X11_159 mv_X2_clear rfl, ?_⟩
  refine List.forall_mem_cons.mpr ⟨ze_aload_n (k := 0) (by decide +kernel) rfl, ?_⟩
  refine List.forall_mem_cons.mpr ⟨ze_getL (by decide +kernel) fl_X11_57 rfl (by decide), ?_⟩
  refine List.forall_mem_cons.mpr ⟨ze_callVF (idx := 162) (by decide +kernel) ml_X11_162 mv_X8_forget rfl, ?_⟩
  refine List.forall_mem_cons.mpr ⟨ze_iload_n (k := 1) (by decide +kernel) rfl, ?_⟩
  refine List.forall_mem_cons.mpr ⟨ze_iret (by decide +kernel) rfl, ?_⟩
  exact fun _ h => absurd h List.not_mem_nil
theorem vX11_takeLoan {l : Launch} {G : GT} {d : Nat} {av : List Value} {Q : Po} {σ : Mm} (cs : List (Nat × List Nat)) (k : Nat) (h : vc l G d mX11_takeLoan TX11_takeLoan Q cs k TX11_takeLoan (lv_args 0 av) [] σ) (hlen : (lg_sl av).length ≤ mX11_takeLoan.2.2.1 := by exact Nat.le_of_ble_eq_true rfl) : MW l G d mX11_takeLoan av σ Q := mw_vc TX11_takeLoan_ok mc_X11_takeLoan rfl hlen cs k rfl h
theorem wX11_takeLoan {l : Launch} {G : GT} {d : Nat} {Q : Po} {pc : Nat} {lv : Lv} {st : List Value} {σ : Mm} (cs : List (Nat × List Nat)) (k : Nat) (h : vc l G d mX11_takeLoan TX11_takeLoan Q cs k (drp TX11_takeLoan pc) lv st σ) (hpc : hdp (drp TX11_takeLoan pc) = pc := by rfl) : Wp l G d mX11_takeLoan pc lv st σ Q := wp_vc TX11_takeLoan_ok cs k hpc h
def TX11_takeClause : List In := [(0, 1, zt_iload 1), (1, 2, zt_ic 1), (2, 5, zt_icmp_ne 30), (5, 6, zt_iload 2), (6, 7, zt_ic 1), (7, 10, zt_icmp_lt 30), (10, 11, zt_iload 2), (11, 12, zt_aload 0), (12, 15, zt_getL 19 0), (15, 16, zt_ic 1), (16, 17, zt_iald), (17, 20, zt_icmp_ge 30), (20, 21, zt_aload 0), (21, 24, zt_getL 19 1), (24, 26, zt_ic 12), (26, 27, zt_iload 2), (27, 28, zt_iadd), (28, 29, zt_iload 3), (29, 30, zt_iastoreF), (30, 31, zt_iload 1), (31, 32, zt_ic 2), (32, 35, zt_icmp_ne 59), (35, 36, zt_aload 0), (36, 37, zt_iload 2), (37, 38, zt_iload 3), (38, 41, zt_callVF mX11_isNode 2 19), (41, 44, zt_if_eq 59), (44, 45, zt_aload 0), (45, 48, zt_getL 19 1), (48, 50, zt_ic 25), (50, 51, zt_iload 2), (51, 52, zt_iload 3), (52, 55, zt_callSF mX8_nodeOf 2), (55, 56, zt_iadd), (56, 58, zt_iload 4), (58, 59, zt_iastoreF), (59, 60, zt_vret)]
theorem TX11_takeClause_ok : ∀ i ∈ TX11_takeClause, Ent mX11_takeClause i := by
  refine List.forall_mem_cons.mpr ⟨ze_iload_n (k := 1) (by decide +kernel) rfl, ?_⟩
  refine List.forall_mem_cons.mpr ⟨ze_iconst (n := 1) (by decide +kernel) (by decide), ?_⟩
  refine List.forall_mem_cons.mpr ⟨ze_icmp_ne (off := 28) (by decide +kernel) (by decide), ?_⟩
  refine List.forall_mem_cons.mpr ⟨ze_iload_n (k := 2) (by decide +kernel) rfl, ?_⟩
  refine List.forall_mem_cons.mpr ⟨ze_iconst (n := 1) (by decide +kernel) (by decide), ?_⟩
  refine List.forall_mem_cons.mpr ⟨ze_icmp_lt (off := 23) (by decide +kernel) (by decide), ?_⟩
  refine List.forall_mem_cons.mpr ⟨ze_iload_n (k := 2) (by decide +kernel) rfl, ?_⟩
  refine List.forall_mem_cons.mpr ⟨ze_aload_n (k := 0) (by decide +kernel) rfl, ?_⟩
  refine List.forall_mem_cons.mpr ⟨ze_getL (by decide +kernel) fl_X11_9 rfl (by decide), ?_⟩
  refine List.forall_mem_cons.mpr ⟨ze_iconst (n := 1) (by decide +kernel) (by decide), ?_⟩
  refine List.forall_mem_cons.mpr ⟨ze_iald (by decide +kernel), ?_⟩
  refine List.forall_mem_cons.mpr ⟨ze_icmp_ge (off := 13) (by decide +kernel) (by decide), ?_⟩
  refine List.forall_mem_cons.mpr ⟨ze_aload_n (k := 0) (by decide +kernel) rfl, ?_⟩
  refine List.forall_mem_cons.mpr ⟨ze_getL (by decide +kernel) fl_X11_17 rfl (by decide), ?_⟩
  refine List.forall_mem_cons.mpr ⟨ze_bipush (n := 12) (by decide +kernel) (by decide), ?_⟩
  refine List.forall_mem_cons.mpr ⟨ze_iload_n (k := 2) (by decide +kernel) rfl, ?_⟩
  refine List.forall_mem_cons.mpr ⟨ze_iadd (by decide +kernel), ?_⟩
  refine List.forall_mem_cons.mpr ⟨ze_iload_n (k := 3) (by decide +kernel) rfl, ?_⟩
  refine List.forall_mem_cons.mpr ⟨ze_iastoreF (by decide +kernel), ?_⟩
  refine List.forall_mem_cons.mpr ⟨ze_iload_n (k := 1) (by decide +kernel) rfl, ?_⟩
  refine List.forall_mem_cons.mpr ⟨ze_iconst (n := 2) (by decide +kernel) (by decide), ?_⟩
  refine List.forall_mem_cons.mpr ⟨ze_icmp_ne (off := 27) (by decide +kernel) (by decide), ?_⟩
  refine List.forall_mem_cons.mpr ⟨ze_aload_n (k := 0) (by decide +kernel) rfl, ?_⟩
  refine List.forall_mem_cons.mpr ⟨ze_iload_n (k := 2) (by decide +kernel) rfl, ?_⟩
  refine List.forall_mem_cons.mpr ⟨ze_iload_n (k := 3) (by decide +kernel) rfl, ?_⟩
  refine List.forall_mem_cons.mpr ⟨ze_callVF (idx := 165) (by decide +kernel) ml_X11_165 mv_X11_isNode rfl, ?_⟩
  refine List.forall_mem_cons.mpr ⟨ze_if_eq (off := 18) (by decide +kernel) (by decide), ?_⟩
  refine List.forall_mem_cons.mpr ⟨ze_aload_n (k := 0) (by decide +kernel) rfl, ?_⟩
  refine List.forall_mem_cons.mpr ⟨ze_getL (by decide +kernel) fl_X11_17 rfl (by decide), ?_⟩
  refine List.forall_mem_cons.mpr ⟨ze_bipush (n := 25) (by decide +kernel) (by decide), ?_⟩
  refine List.forall_mem_cons.mpr ⟨ze_iload_n (k := 2) (by decide +kernel) rfl, ?_⟩
  refine List.forall_mem_cons.mpr ⟨ze_iload_n (k := 3) (by decide +kernel) rfl, ?_⟩
  refine List.forall_mem_cons.mpr ⟨ze_callSF (idx := 145) (by decide +kernel) ml_X11_145 ms_X8_nodeOf, ?_⟩
  refine List.forall_mem_cons.mpr ⟨ze_iadd (by decide +kernel), ?_⟩
  refine List.forall_mem_cons.mpr ⟨ze_iload (by decide +kernel), ?_⟩
  refine List.forall_mem_cons.mpr ⟨ze_iastoreF (by decide +kernel), ?_⟩
  refine List.forall_mem_cons.mpr ⟨ze_vret (by decide +kernel) rfl, ?_⟩
  exact fun _ h => absurd h List.not_mem_nil
theorem vX11_takeClause {l : Launch} {G : GT} {d : Nat} {av : List Value} {Q : Po} {σ : Mm} (cs : List (Nat × List Nat)) (k : Nat) (h : vc l G d mX11_takeClause TX11_takeClause Q cs k TX11_takeClause (lv_args 0 av) [] σ) (hlen : (lg_sl av).length ≤ mX11_takeClause.2.2.1 := by exact Nat.le_of_ble_eq_true rfl) : MW l G d mX11_takeClause av σ Q := mw_vc TX11_takeClause_ok mc_X11_takeClause rfl hlen cs k rfl h
theorem wX11_takeClause {l : Launch} {G : GT} {d : Nat} {Q : Po} {pc : Nat} {lv : Lv} {st : List Value} {σ : Mm} (cs : List (Nat × List Nat)) (k : Nat) (h : vc l G d mX11_takeClause TX11_takeClause Q cs k (drp TX11_takeClause pc) lv st σ) (hpc : hdp (drp TX11_takeClause pc) = pc := by rfl) : Wp l G d mX11_takeClause pc lv st σ Q := wp_vc TX11_takeClause_ok cs k hpc h
def TX11_takePolicy : List In := [(0, 1, zt_aload 0), (1, 4, zt_getL 19 1), (4, 6, zt_ic 103), (6, 8, zt_ic 115), (8, 9, zt_ic 0), (9, 12, zt_callSF mJ7_fill_fda19 4), (12, 13, zt_ic 0), (13, 14, zt_istoreF 1), (14, 15, zt_iload 1), (15, 16, zt_aload 0), (16, 19, zt_getL 19 6), (19, 22, zt_getI 13 2), (22, 25, zt_icmp_ge 78), (25, 26, zt_aload 0), (26, 29, zt_getL 19 6), (29, 30, zt_iload 1), (30, 31, zt_ic 1), (31, 34, zt_callVF mX4_part 2 13), (34, 35, zt_istoreF 2), (35, 36, zt_aload 0), (36, 39, zt_getL 19 6), (39, 40, zt_iload 1), (40, 41, zt_ic 2), (41, 44, zt_callVF mX4_part 2 13), (44, 45, zt_istoreF 3), (45, 46, zt_aload 0), (46, 47, zt_iload 2), (47, 48, zt_iload 3), (48, 51, zt_callVF mX11_isNode 2 19), (51, 54, zt_if_eq 72), (54, 55, zt_aload 0), (55, 58, zt_getL 19 1), (58, 59, zt_iload 2), (59, 60, zt_iload 3), (60, 61, zt_aload 0), (61, 64, zt_getL 19 6), (64, 65, zt_iload 1), (65, 66, zt_ic 3), (66, 69, zt_callVF mX4_part 2 13), (69, 72, zt_callSF mX0_setDeed 4), (72, 75, zt_iincF 1 1), (75, 78, zt_goto 14), (78, 79, zt_ic 0), (79, 80, zt_istoreF 1), (80, 81, zt_ic 0), (81, 82, zt_istoreF 2), (82, 83, zt_iload 2), (83, 84, zt_aload 0), (84, 87, zt_getL 19 0), (87, 88, zt_ic 1), (88, 89, zt_iald), (89, 92, zt_icmp_ge 131), (92, 93, zt_ic 0), (93, 94, zt_istoreF 3), (94, 95, zt_iload 3), (95, 96, zt_iload 2), (96, 99, zt_icmp_gt 125), (99, 100, zt_iload 1), (100, 101, zt_aload 0), (101, 104, zt_getL 19 1), (104, 105, zt_iload 2), (105, 106, zt_iload 3), (106, 109, zt_callSF mX0_deedOf 3), (109, 112, zt_if_eq 116), (112, 113, zt_ic 1), (113, 116, zt_goto 117), (116, 117, zt_ic 0), (117, 118, zt_iadd), (118, 119, zt_istoreF 1), (119, 122, zt_iincF 3 1), (122, 125, zt_goto 94), (125, 128, zt_iincF 2 1), (128, 131, zt_goto 82), (131, 132, zt_iload 1), (132, 133, zt_iret)]
theorem TX11_takePolicy_ok : ∀ i ∈ TX11_takePolicy, Ent mX11_takePolicy i := by
  refine List.forall_mem_cons.mpr ⟨ze_aload_n (k := 0) (by decide +kernel) rfl, ?_⟩
  refine List.forall_mem_cons.mpr ⟨ze_getL (by decide +kernel) fl_X11_17 rfl (by decide), ?_⟩
  refine List.forall_mem_cons.mpr ⟨ze_bipush (n := 103) (by decide +kernel) (by decide), ?_⟩
  refine List.forall_mem_cons.mpr ⟨ze_bipush (n := 115) (by decide +kernel) (by decide), ?_⟩
  refine List.forall_mem_cons.mpr ⟨ze_iconst (n := 0) (by decide +kernel) (by decide), ?_⟩
  refine List.forall_mem_cons.mpr ⟨ze_callSF (idx := 169) (by decide +kernel) ml_X11_169 ms_J7_fill_fda19, ?_⟩
  refine List.forall_mem_cons.mpr ⟨ze_iconst (n := 0) (by decide +kernel) (by decide), ?_⟩
  refine List.forall_mem_cons.mpr ⟨ze_istoreF_n (k := 1) (by decide +kernel) rfl (by decide), ?_⟩
  refine List.forall_mem_cons.mpr ⟨ze_iload_n (k := 1) (by decide +kernel) rfl, ?_⟩
  refine List.forall_mem_cons.mpr ⟨ze_aload_n (k := 0) (by decide +kernel) rfl, ?_⟩
  refine List.forall_mem_cons.mpr ⟨ze_getL (by decide +kernel) fl_X11_41 rfl (by decide), ?_⟩
  refine List.forall_mem_cons.mpr ⟨ze_getI (by decide +kernel) fl_X11_118 rfl, ?_⟩
  refine List.forall_mem_cons.mpr ⟨ze_icmp_ge (off := 56) (by decide +kernel) (by decide), ?_⟩
  refine List.forall_mem_cons.mpr ⟨ze_aload_n (k := 0) (by decide +kernel) rfl, ?_⟩
  refine List.forall_mem_cons.mpr ⟨ze_getL (by decide +kernel) fl_X11_41 rfl (by decide), ?_⟩
  refine List.forall_mem_cons.mpr ⟨ze_iload_n (k := 1) (by decide +kernel) rfl, ?_⟩
  refine List.forall_mem_cons.mpr ⟨ze_iconst (n := 1) (by decide +kernel) (by decide), ?_⟩
  refine List.forall_mem_cons.mpr ⟨ze_callVF (idx := 152) (by decide +kernel) ml_X11_152 mv_X4_part rfl, ?_⟩
  refine List.forall_mem_cons.mpr ⟨ze_istoreF_n (k := 2) (by decide +kernel) rfl (by decide), ?_⟩
  refine List.forall_mem_cons.mpr ⟨ze_aload_n (k := 0) (by decide +kernel) rfl, ?_⟩
  refine List.forall_mem_cons.mpr ⟨ze_getL (by decide +kernel) fl_X11_41 rfl (by decide), ?_⟩
  refine List.forall_mem_cons.mpr ⟨ze_iload_n (k := 1) (by decide +kernel) rfl, ?_⟩
  refine List.forall_mem_cons.mpr ⟨ze_iconst (n := 2) (by decide +kernel) (by decide), ?_⟩
  refine List.forall_mem_cons.mpr ⟨ze_callVF (idx := 152) (by decide +kernel) ml_X11_152 mv_X4_part rfl, ?_⟩
  refine List.forall_mem_cons.mpr ⟨ze_istoreF_n (k := 3) (by decide +kernel) rfl (by decide), ?_⟩
  refine List.forall_mem_cons.mpr ⟨ze_aload_n (k := 0) (by decide +kernel) rfl, ?_⟩
  refine List.forall_mem_cons.mpr ⟨ze_iload_n (k := 2) (by decide +kernel) rfl, ?_⟩
  refine List.forall_mem_cons.mpr ⟨ze_iload_n (k := 3) (by decide +kernel) rfl, ?_⟩
  refine List.forall_mem_cons.mpr ⟨ze_callVF (idx := 165) (by decide +kernel) ml_X11_165 mv_X11_isNode rfl, ?_⟩
  refine List.forall_mem_cons.mpr ⟨ze_if_eq (off := 21) (by decide +kernel) (by decide), ?_⟩
  refine List.forall_mem_cons.mpr ⟨ze_aload_n (k := 0) (by decide +kernel) rfl, ?_⟩
  refine List.forall_mem_cons.mpr ⟨ze_getL (by decide +kernel) fl_X11_17 rfl (by decide), ?_⟩
  refine List.forall_mem_cons.mpr ⟨ze_iload_n (k := 2) (by decide +kernel) rfl, ?_⟩
  refine List.forall_mem_cons.mpr ⟨ze_iload_n (k := 3) (by decide +kernel) rfl, ?_⟩
  refine List.forall_mem_cons.mpr ⟨ze_aload_n (k := 0) (by decide +kernel) rfl, ?_⟩
  refine List.forall_mem_cons.mpr ⟨ze_getL (by decide +kernel) fl_X11_41 rfl (by decide), ?_⟩
  refine List.forall_mem_cons.mpr ⟨ze_iload_n (k := 1) (by decide +kernel) rfl, ?_⟩
  refine List.forall_mem_cons.mpr ⟨ze_iconst (n := 3) (by decide +kernel) (by decide), ?_⟩
  refine List.forall_mem_cons.mpr ⟨ze_callVF (idx := 152) (by decide +kernel) ml_X11_152 mv_X4_part rfl, ?_⟩
  refine List.forall_mem_cons.mpr ⟨ze_callSF (idx := 172) (by decide +kernel) ml_X11_172 ms_X0_setDeed, ?_⟩
  refine List.forall_mem_cons.mpr ⟨ze_iincF (n := 1) (by decide +kernel) (by decide) (by decide), ?_⟩
  refine List.forall_mem_cons.mpr ⟨ze_goto (off := -61) (by decide +kernel) (by decide), ?_⟩
  refine List.forall_mem_cons.mpr ⟨ze_iconst (n := 0) (by decide +kernel) (by decide), ?_⟩
  refine List.forall_mem_cons.mpr ⟨ze_istoreF_n (k := 1) (by decide +kernel) rfl (by decide), ?_⟩
  refine List.forall_mem_cons.mpr ⟨ze_iconst (n := 0) (by decide +kernel) (by decide), ?_⟩
  refine List.forall_mem_cons.mpr ⟨ze_istoreF_n (k := 2) (by decide +kernel) rfl (by decide), ?_⟩
  refine List.forall_mem_cons.mpr ⟨ze_iload_n (k := 2) (by decide +kernel) rfl, ?_⟩
  refine List.forall_mem_cons.mpr ⟨ze_aload_n (k := 0) (by decide +kernel) rfl, ?_⟩
  refine List.forall_mem_cons.mpr ⟨ze_getL (by decide +kernel) fl_X11_9 rfl (by decide), ?_⟩
  refine List.forall_mem_cons.mpr ⟨ze_iconst (n := 1) (by decide +kernel) (by decide), ?_⟩
  refine List.forall_mem_cons.mpr ⟨ze_iald (by decide +kernel), ?_⟩
  refine List.forall_mem_cons.mpr ⟨ze_icmp_ge (off := 42) (by decide +kernel) (by decide), ?_⟩
  refine List.forall_mem_cons.mpr ⟨ze_iconst (n := 0) (by decide +kernel) (by decide), ?_⟩
  refine List.forall_mem_cons.mpr ⟨ze_istoreF_n (k := 3) (by decide +kernel) rfl (by decide), ?_⟩
  refine List.forall_mem_cons.mpr ⟨ze_iload_n (k := 3) (by decide +kernel) rfl, ?_⟩
  refine List.forall_mem_cons.mpr ⟨ze_iload_n (k := 2) (by decide +kernel) rfl, ?_⟩
  refine List.forall_mem_cons.mpr ⟨ze_icmp_gt (off := 29) (by decide +kernel) (by decide), ?_⟩
  refine List.forall_mem_cons.mpr ⟨ze_iload_n (k := 1) (by decide +kernel) rfl, ?_⟩
  refine List.forall_mem_cons.mpr ⟨ze_aload_n (k := 0) (by decide +kernel) rfl, ?_⟩
  refine List.forall_mem_cons.mpr ⟨ze_getL (by decide +kernel) fl_X11_17 rfl (by decide), ?_⟩
  refine List.forall_mem_cons.mpr ⟨ze_iload_n (k := 2) (by decide +kernel) rfl, ?_⟩
  refine List.forall_mem_cons.mpr ⟨ze_iload_n (k := 3) (by decide +kernel) rfl, ?_⟩
  refine List.forall_mem_cons.mpr ⟨ze_callSF (idx := 175) (by decide +kernel) ml_X11_175 ms_X0_deedOf, ?_⟩
  refine List.forall_mem_cons.mpr ⟨ze_if_eq (off := 7) (by decide +kernel) (by decide), ?_⟩
  refine List.forall_mem_cons.mpr ⟨ze_iconst (n := 1) (by decide +kernel) (by decide), ?_⟩
  refine List.forall_mem_cons.mpr ⟨ze_goto (off := 4) (by decide +kernel) (by decide), ?_⟩
  refine List.forall_mem_cons.mpr ⟨ze_iconst (n := 0) (by decide +kernel) (by decide), ?_⟩
  refine List.forall_mem_cons.mpr ⟨ze_iadd (by decide +kernel), ?_⟩
  refine List.forall_mem_cons.mpr ⟨ze_istoreF_n (k := 1) (by decide +kernel) rfl (by decide), ?_⟩
  refine List.forall_mem_cons.mpr ⟨ze_iincF (n := 1) (by decide +kernel) (by decide) (by decide), ?_⟩
  refine List.forall_mem_cons.mpr ⟨ze_goto (off := -28) (by decide +kernel) (by decide), ?_⟩
  refine List.forall_mem_cons.mpr ⟨ze_iincF (n := 1) (by decide +kernel) (by decide) (by decide), ?_⟩
  refine List.forall_mem_cons.mpr ⟨ze_goto (off := -46) (by decide +kernel) (by decide), ?_⟩
  refine List.forall_mem_cons.mpr ⟨ze_iload_n (k := 1) (by decide +kernel) rfl, ?_⟩
  refine List.forall_mem_cons.mpr ⟨ze_iret (by decide +kernel) rfl, ?_⟩
  exact fun _ h => absurd h List.not_mem_nil
theorem vX11_takePolicy {l : Launch} {G : GT} {d : Nat} {av : List Value} {Q : Po} {σ : Mm} (cs : List (Nat × List Nat)) (k : Nat) (h : vc l G d mX11_takePolicy TX11_takePolicy Q cs k TX11_takePolicy (lv_args 0 av) [] σ) (hlen : (lg_sl av).length ≤ mX11_takePolicy.2.2.1 := by exact Nat.le_of_ble_eq_true rfl) : MW l G d mX11_takePolicy av σ Q := mw_vc TX11_takePolicy_ok mc_X11_takePolicy rfl hlen cs k rfl h
theorem wX11_takePolicy {l : Launch} {G : GT} {d : Nat} {Q : Po} {pc : Nat} {lv : Lv} {st : List Value} {σ : Mm} (cs : List (Nat × List Nat)) (k : Nat) (h : vc l G d mX11_takePolicy TX11_takePolicy Q cs k (drp TX11_takePolicy pc) lv st σ) (hpc : hdp (drp TX11_takePolicy pc) = pc := by rfl) : Wp l G d mX11_takePolicy pc lv st σ Q := wp_vc TX11_takePolicy_ok cs k hpc h
def TX11_rule : List In := [(0, 1, zt_aload 0), (1, 4, zt_callVF mX11_noLoan 0 19), (4, 7, zt_if_ne 17), (7, 8, zt_iload 1), (8, 11, zt_if_lt 17), (11, 12, zt_iload 1), (12, 14, zt_ic 14), (14, 17, zt_icmp_lt 19), (17, 18, zt_ic (-1)), (18, 19, zt_iret), (19, 20, zt_iload 1), (20, 21, zt_ic 2), (21, 24, zt_icmp_ne 31), (24, 25, zt_aload 0), (25, 28, zt_getL 19 1), (28, 29, zt_ic 2), (29, 30, zt_iald), (30, 31, zt_iret), (31, 32, zt_iload 1), (32, 34, zt_ic 11), (34, 37, zt_icmp_ne 46), (37, 38, zt_aload 0), (38, 41, zt_getL 19 1), (41, 42, zt_ic 3), (42, 43, zt_iald), (43, 46, zt_goto 52), (46, 47, zt_aload 0), (47, 50, zt_getL 19 0), (50, 51, zt_iload 1), (51, 52, zt_iald), (52, 53, zt_iret)]
theorem TX11_rule_ok : ∀ i ∈ TX11_rule, Ent mX11_rule i := by
  refine List.forall_mem_cons.mpr ⟨ze_aload_n (k := 0) (by decide +kernel) rfl, ?_⟩
  refine List.forall_mem_cons.mpr ⟨ze_callVF (idx := 111) (by decide +kernel) ml_X11_111 mv_X11_noLoan rfl, ?_⟩
  refine List.forall_mem_cons.mpr ⟨ze_if_ne (off := 13) (by decide +kernel) (by decide), ?_⟩
  refine List.forall_mem_cons.mpr ⟨ze_iload_n (k := 1) (by decide +kernel) rfl, ?_⟩
  refine List.forall_mem_cons.mpr ⟨ze_if_lt (off := 9) (by decide +kernel) (by decide), ?_⟩
  refine List.forall_mem_cons.mpr ⟨ze_iload_n (k := 1) (by decide +kernel) rfl, ?_⟩
  refine List.forall_mem_cons.mpr ⟨ze_bipush (n := 14) (by decide +kernel) (by decide), ?_⟩
  refine List.forall_mem_cons.mpr ⟨ze_icmp_lt (off := 5) (by decide +kernel) (by decide), ?_⟩
  refine List.forall_mem_cons.mpr ⟨ze_iconst (n := -1) (by decide +kernel) (by decide), ?_⟩
  refine List.forall_mem_cons.mpr ⟨ze_iret (by decide +kernel) rfl, ?_⟩
  refine List.forall_mem_cons.mpr ⟨ze_iload_n (k := 1) (by decide +kernel) rfl, ?_⟩
  refine List.forall_mem_cons.mpr ⟨ze_iconst (n := 2) (by decide +kernel) (by decide), ?_⟩
  refine List.forall_mem_cons.mpr ⟨ze_icmp_ne (off := 10) (by decide +kernel) (by decide), ?_⟩
  refine List.forall_mem_cons.mpr ⟨ze_aload_n (k := 0) (by decide +kernel) rfl, ?_⟩
  refine List.forall_mem_cons.mpr ⟨ze_getL (by decide +kernel) fl_X11_17 rfl (by decide), ?_⟩
  refine List.forall_mem_cons.mpr ⟨ze_iconst (n := 2) (by decide +kernel) (by decide), ?_⟩
  refine List.forall_mem_cons.mpr ⟨ze_iald (by decide +kernel), ?_⟩
  refine List.forall_mem_cons.mpr ⟨ze_iret (by decide +kernel) rfl, ?_⟩
  refine List.forall_mem_cons.mpr ⟨ze_iload_n (k := 1) (by decide +kernel) rfl, ?_⟩
  refine List.forall_mem_cons.mpr ⟨ze_bipush (n := 11) (by decide +kernel) (by decide), ?_⟩
  refine List.forall_mem_cons.mpr ⟨ze_icmp_ne (off := 12) (by decide +kernel) (by decide), ?_⟩
  refine List.forall_mem_cons.mpr ⟨ze_aload_n (k := 0) (by decide +kernel) rfl, ?_⟩
  refine List.forall_mem_cons.mpr ⟨ze_getL (by decide +kernel) fl_X11_17 rfl (by decide), ?_⟩
  refine List.forall_mem_cons.mpr ⟨ze_iconst (n := 3) (by decide +kernel) (by decide), ?_⟩
  refine List.forall_mem_cons.mpr ⟨ze_iald (by decide +kernel), ?_⟩
  refine List.forall_mem_cons.mpr ⟨ze_goto (off := 9) (by decide +kernel) (by decide), ?_⟩
  refine List.forall_mem_cons.mpr ⟨ze_aload_n (k := 0) (by decide +kernel) rfl, ?_⟩
  refine List.forall_mem_cons.mpr ⟨ze_getL (by decide +kernel) fl_X11_9 rfl (by decide), ?_⟩
  refine List.forall_mem_cons.mpr ⟨ze_iload_n (k := 1) (by decide +kernel) rfl, ?_⟩
  refine List.forall_mem_cons.mpr ⟨ze_iald (by decide +kernel), ?_⟩
  refine List.forall_mem_cons.mpr ⟨ze_iret (by decide +kernel) rfl, ?_⟩
  exact fun _ h => absurd h List.not_mem_nil
theorem vX11_rule {l : Launch} {G : GT} {d : Nat} {av : List Value} {Q : Po} {σ : Mm} (cs : List (Nat × List Nat)) (k : Nat) (h : vc l G d mX11_rule TX11_rule Q cs k TX11_rule (lv_args 0 av) [] σ) (hlen : (lg_sl av).length ≤ mX11_rule.2.2.1 := by exact Nat.le_of_ble_eq_true rfl) : MW l G d mX11_rule av σ Q := mw_vc TX11_rule_ok mc_X11_rule rfl hlen cs k rfl h
theorem wX11_rule {l : Launch} {G : GT} {d : Nat} {Q : Po} {pc : Nat} {lv : Lv} {st : List Value} {σ : Mm} (cs : List (Nat × List Nat)) (k : Nat) (h : vc l G d mX11_rule TX11_rule Q cs k (drp TX11_rule pc) lv st σ) (hpc : hdp (drp TX11_rule pc) = pc := by rfl) : Wp l G d mX11_rule pc lv st σ Q := wp_vc TX11_rule_ok cs k hpc h
def TX11_rate : List In := [(0, 1, zt_aload 0), (1, 2, zt_iload 1), (2, 3, zt_iload 2), (3, 6, zt_callVF mX11_isNode 2 19), (6, 9, zt_if_ne 19), (9, 12, zt_no), (12, 13, zt_dup), (13, 15, zt_no), (15, 18, zt_no), (18, 19, zt_no), (19, 20, zt_aload 0), (20, 23, zt_getL 19 1), (23, 25, zt_ic 25), (25, 26, zt_iload 1), (26, 27, zt_iload 2), (27, 30, zt_callSF mX8_nodeOf 2), (30, 31, zt_iadd), (31, 32, zt_iald), (32, 33, zt_iret)]
theorem TX11_rate_ok : ∀ i ∈ TX11_rate, Ent mX11_rate i := by
  refine List.forall_mem_cons.mpr ⟨ze_aload_n (k := 0) (by decide +kernel) rfl, ?_⟩
  refine List.forall_mem_cons.mpr ⟨ze_iload_n (k := 1) (by decide +kernel) rfl, ?_⟩
  refine List.forall_mem_cons.mpr ⟨ze_iload_n (k := 2) (by decide +kernel) rfl, ?_⟩
  refine List.forall_mem_cons.mpr ⟨ze_callVF (idx := 165) (by decide +kernel) ml_X11_165 mv_X11_isNode rfl, ?_⟩
  refine List.forall_mem_cons.mpr ⟨ze_if_ne (off := 13) (by decide +kernel) (by decide), ?_⟩
  refine List.forall_mem_cons.mpr ⟨ze_no, ?_⟩
  refine List.forall_mem_cons.mpr ⟨ze_dup (by decide +kernel), ?_⟩
  refine List.forall_mem_cons.mpr ⟨ze_no, ?_⟩
  refine List.forall_mem_cons.mpr ⟨ze_no, ?_⟩
  refine List.forall_mem_cons.mpr ⟨ze_no, ?_⟩
  refine List.forall_mem_cons.mpr ⟨ze_aload_n (k := 0) (by decide +kernel) rfl, ?_⟩
  refine List.forall_mem_cons.mpr ⟨ze_getL (by decide +kernel) fl_X11_17 rfl (by decide), ?_⟩
  refine List.forall_mem_cons.mpr ⟨ze_bipush (n := 25) (by decide +kernel) (by decide), ?_⟩
  refine List.forall_mem_cons.mpr ⟨ze_iload_n (k := 1) (by decide +kernel) rfl, ?_⟩
  refine List.forall_mem_cons.mpr ⟨ze_iload_n (k := 2) (by decide +kernel) rfl, ?_⟩
  refine List.forall_mem_cons.mpr ⟨ze_callSF (idx := 145) (by decide +kernel) ml_X11_145 ms_X8_nodeOf, ?_⟩
  refine List.forall_mem_cons.mpr ⟨ze_iadd (by decide +kernel), ?_⟩
  refine List.forall_mem_cons.mpr ⟨ze_iald (by decide +kernel), ?_⟩
  refine List.forall_mem_cons.mpr ⟨ze_iret (by decide +kernel) rfl, ?_⟩
  exact fun _ h => absurd h List.not_mem_nil
theorem vX11_rate {l : Launch} {G : GT} {d : Nat} {av : List Value} {Q : Po} {σ : Mm} (cs : List (Nat × List Nat)) (k : Nat) (h : vc l G d mX11_rate TX11_rate Q cs k TX11_rate (lv_args 0 av) [] σ) (hlen : (lg_sl av).length ≤ mX11_rate.2.2.1 := by exact Nat.le_of_ble_eq_true rfl) : MW l G d mX11_rate av σ Q := mw_vc TX11_rate_ok mc_X11_rate rfl hlen cs k rfl h
theorem wX11_rate {l : Launch} {G : GT} {d : Nat} {Q : Po} {pc : Nat} {lv : Lv} {st : List Value} {σ : Mm} (cs : List (Nat × List Nat)) (k : Nat) (h : vc l G d mX11_rate TX11_rate Q cs k (drp TX11_rate pc) lv st σ) (hpc : hdp (drp TX11_rate pc) = pc := by rfl) : Wp l G d mX11_rate pc lv st σ Q := wp_vc TX11_rate_ok cs k hpc h
def TX11_year : List In := [(0, 1, zt_aload 0), (1, 4, zt_callVF mX11_noLoan 0 19), (4, 7, zt_if_ne 40), (7, 8, zt_iload 2), (8, 11, zt_if_lt 40), (11, 12, zt_iload 2), (12, 13, zt_ic 4), (13, 16, zt_icmp_gt 40), (16, 17, zt_iload 1), (17, 18, zt_iload 2), (18, 19, zt_ic 3), (19, 22, zt_icmp_ge 26), (22, 23, zt_ic 1), (23, 26, zt_goto 27), (26, 27, zt_ic 0), (27, 30, zt_icmp_lt 40), (30, 31, zt_iload 1), (31, 32, zt_aload 0), (32, 35, zt_getL 19 0), (35, 36, zt_ic 1), (36, 37, zt_iald), (37, 40, zt_icmp_le 42), (40, 41, zt_ic (-1)), (41, 42, zt_iret), (42, 43, zt_aload 0), (43, 46, zt_getL 19 8), (46, 47, zt_aload 0), (47, 50, zt_getL 19 1), (50, 51, zt_ic 0), (51, 54, zt_callVF mX8_look 2 16), (54, 55, zt_iload 2), (55, 84, zt_tsw 0 3 [84, 94, 109, 134] 144), (84, 85, zt_aload 0), (85, 88, zt_getL 19 8), (88, 91, zt_getL 16 1), (91, 92, zt_iload 1), (92, 93, zt_iald), (93, 94, zt_iret), (94, 95, zt_aload 0), (95, 98, zt_getL 19 8), (98, 99, zt_iload 1), (99, 100, zt_aload 0), (100, 103, zt_getL 19 1), (103, 104, zt_ic 2), (104, 105, zt_iald), (105, 108, zt_callVF mX8_interestOf 2 16), (108, 109, zt_iret), (109, 110, zt_aload 0), (110, 113, zt_getL 19 8), (113, 116, zt_getL 16 1), (116, 117, zt_iload 1), (117, 118, zt_iald), (118, 119, zt_aload 0), (119, 122, zt_getL 19 8), (122, 123, zt_iload 1), (123, 124, zt_aload 0), (124, 127, zt_getL 19 1), (127, 128, zt_ic 2), (128, 129, zt_iald), (129, 132, zt_callVF mX8_interestOf 2 16), (132, 133, zt_iadd), (133, 134, zt_iret), (134, 135, zt_aload 0), (135, 138, zt_getL 19 8), (138, 141, zt_getL 16 0), (141, 142, zt_iload 1), (142, 143, zt_iald), (143, 144, zt_iret), (144, 145, zt_aload 0), (145, 148, zt_getL 19 8), (148, 151, zt_getL 16 2), (151, 152, zt_iload 1), (152, 153, zt_iald), (153, 154, zt_iret)]
theorem TX11_year_ok : ∀ i ∈ TX11_year, Ent mX11_year i := by
  refine List.forall_mem_cons.mpr ⟨ze_aload_n (k := 0) (by decide +kernel) rfl, ?_⟩
  refine List.forall_mem_cons.mpr ⟨ze_callVF (idx := 111) (by decide +kernel) ml_X11_111 mv_X11_noLoan rfl, ?_⟩
  refine List.forall_mem_cons.mpr ⟨ze_if_ne (off := 36) (by decide +kernel) (by decide), ?_⟩
  refine List.forall_mem_cons.mpr ⟨ze_iload_n (k := 2) (by decide +kernel) rfl, ?_⟩
  refine List.forall_mem_cons.mpr ⟨ze_if_lt (off := 32) (by decide +kernel) (by decide), ?_⟩
  refine List.forall_mem_cons.mpr ⟨ze_iload_n (k := 2) (by decide +kernel) rfl, ?_⟩
  refine List.forall_mem_cons.mpr ⟨ze_iconst (n := 4) (by decide +kernel) (by decide), ?_⟩
  refine List.forall_mem_cons.mpr ⟨ze_icmp_gt (off := 27) (by decide +kernel) (by decide), ?_⟩
  refine List.forall_mem_cons.mpr ⟨ze_iload_n (k := 1) (by decide +kernel) rfl, ?_⟩
  refine List.forall_mem_cons.mpr ⟨ze_iload_n (k := 2) (by decide +kernel) rfl, ?_⟩
  refine List.forall_mem_cons.mpr ⟨ze_iconst (n := 3) (by decide +kernel) (by decide), ?_⟩
  refine List.forall_mem_cons.mpr ⟨ze_icmp_ge (off := 7) (by decide +kernel) (by decide), ?_⟩
  refine List.forall_mem_cons.mpr ⟨ze_iconst (n := 1) (by decide +kernel) (by decide), ?_⟩
  refine List.forall_mem_cons.mpr ⟨ze_goto (off := 4) (by decide +kernel) (by decide), ?_⟩
  refine List.forall_mem_cons.mpr ⟨ze_iconst (n := 0) (by decide +kernel) (by decide), ?_⟩
  refine List.forall_mem_cons.mpr ⟨ze_icmp_lt (off := 13) (by decide +kernel) (by decide), ?_⟩
  refine List.forall_mem_cons.mpr ⟨ze_iload_n (k := 1) (by decide +kernel) rfl, ?_⟩
  refine List.forall_mem_cons.mpr ⟨ze_aload_n (k := 0) (by decide +kernel) rfl, ?_⟩
  refine List.forall_mem_cons.mpr ⟨ze_getL (by decide +kernel) fl_X11_9 rfl (by decide), ?_⟩
  refine List.forall_mem_cons.mpr ⟨ze_iconst (n := 1) (by decide +kernel) (by decide), ?_⟩
  refine List.forall_mem_cons.mpr ⟨ze_iald (by decide +kernel), ?_⟩
  refine List.forall_mem_cons.mpr ⟨ze_icmp_le (off := 5) (by decide +kernel) (by decide), ?_⟩
  refine List.forall_mem_cons.mpr ⟨ze_iconst (n := -1) (by decide +kernel) (by decide), ?_⟩
  refine List.forall_mem_cons.mpr ⟨ze_iret (by decide +kernel) rfl, ?_⟩
  refine List.forall_mem_cons.mpr ⟨ze_aload_n (k := 0) (by decide +kernel) rfl, ?_⟩
  refine List.forall_mem_cons.mpr ⟨ze_getL (by decide +kernel) fl_X11_57 rfl (by decide), ?_⟩
  refine List.forall_mem_cons.mpr ⟨ze_aload_n (k := 0) (by decide +kernel) rfl, ?_⟩
  refine List.forall_mem_cons.mpr ⟨ze_getL (by decide +kernel) fl_X11_17 rfl (by decide), ?_⟩
  refine List.forall_mem_cons.mpr ⟨ze_iconst (n := 0) (by decide +kernel) (by decide), ?_⟩
  refine List.forall_mem_cons.mpr ⟨ze_callVF (idx := 186) (by decide +kernel) ml_X11_186 mv_X8_look rfl, ?_⟩
  refine List.forall_mem_cons.mpr ⟨ze_iload_n (k := 2) (by decide +kernel) rfl, ?_⟩
  refine List.forall_mem_cons.mpr ⟨ze_tsw (len := 29) (df0 := 89) (offs := #[29, 39, 54, 79]) (by decide +kernel) (by decide) (by decide +kernel) (by decide), ?_⟩
  refine List.forall_mem_cons.mpr ⟨ze_aload_n (k := 0) (by decide +kernel) rfl, ?_⟩
  refine List.forall_mem_cons.mpr ⟨ze_getL (by decide +kernel) fl_X11_57 rfl (by decide), ?_⟩
  refine List.forall_mem_cons.mpr ⟨ze_getL (by decide +kernel) fl_X11_189 rfl (by decide), ?_⟩
  refine List.forall_mem_cons.mpr ⟨ze_iload_n (k := 1) (by decide +kernel) rfl, ?_⟩
  refine List.forall_mem_cons.mpr ⟨ze_iald (by decide +kernel), ?_⟩
  refine List.forall_mem_cons.mpr ⟨ze_iret (by decide +kernel) rfl, ?_⟩
  refine List.forall_mem_cons.mpr ⟨ze_aload_n (k := 0) (by decide +kernel) rfl, ?_⟩
  refine List.forall_mem_cons.mpr ⟨ze_getL (by decide +kernel) fl_X11_57 rfl (by decide), ?_⟩
  refine List.forall_mem_cons.mpr ⟨ze_iload_n (k := 1) (by decide +kernel) rfl, ?_⟩
  refine List.forall_mem_cons.mpr ⟨ze_aload_n (k := 0) (by decide +kernel) rfl, ?_⟩
  refine List.forall_mem_cons.mpr ⟨ze_getL (by decide +kernel) fl_X11_17 rfl (by decide), ?_⟩
  refine List.forall_mem_cons.mpr ⟨ze_iconst (n := 2) (by decide +kernel) (by decide), ?_⟩
  refine List.forall_mem_cons.mpr ⟨ze_iald (by decide +kernel), ?_⟩
  refine List.forall_mem_cons.mpr ⟨ze_callVF (idx := 191) (by decide +kernel) ml_X11_191 mv_X8_interestOf rfl, ?_⟩
  refine List.forall_mem_cons.mpr ⟨ze_iret (by decide +kernel) rfl, ?_⟩
  refine List.forall_mem_cons.mpr ⟨ze_aload_n (k := 0) (by decide +kernel) rfl, ?_⟩
  refine List.forall_mem_cons.mpr ⟨ze_getL (by decide +kernel) fl_X11_57 rfl (by decide), ?_⟩
  refine List.forall_mem_cons.mpr ⟨ze_getL (by decide +kernel) fl_X11_189 rfl (by decide), ?_⟩
  refine List.forall_mem_cons.mpr ⟨ze_iload_n (k := 1) (by decide +kernel) rfl, ?_⟩
  refine List.forall_mem_cons.mpr ⟨ze_iald (by decide +kernel), ?_⟩
  refine List.forall_mem_cons.mpr ⟨ze_aload_n (k := 0) (by decide +kernel) rfl, ?_⟩
  refine List.forall_mem_cons.mpr ⟨ze_getL (by decide +kernel) fl_X11_57 rfl (by decide), ?_⟩
  refine List.forall_mem_cons.mpr ⟨ze_iload_n (k := 1) (by decide +kernel) rfl, ?_⟩
  refine List.forall_mem_cons.mpr ⟨ze_aload_n (k := 0) (by decide +kernel) rfl, ?_⟩
  refine List.forall_mem_cons.mpr ⟨ze_getL (by decide +kernel) fl_X11_17 rfl (by decide), ?_⟩
  refine List.forall_mem_cons.mpr ⟨ze_iconst (n := 2) (by decide +kernel) (by decide), ?_⟩
  refine List.forall_mem_cons.mpr ⟨ze_iald (by decide +kernel), ?_⟩
  refine List.forall_mem_cons.mpr ⟨ze_callVF (idx := 191) (by decide +kernel) ml_X11_191 mv_X8_interestOf rfl, ?_⟩
  refine List.forall_mem_cons.mpr ⟨ze_iadd (by decide +kernel), ?_⟩
  refine List.forall_mem_cons.mpr ⟨ze_iret (by decide +kernel) rfl, ?_⟩
  refine List.forall_mem_cons.mpr ⟨ze_aload_n (k := 0) (by decide +kernel) rfl, ?_⟩
  refine List.forall_mem_cons.mpr ⟨ze_getL (by decide +kernel) fl_X11_57 rfl (by decide), ?_⟩
  refine List.forall_mem_cons.mpr ⟨ze_getL (by decide +kernel) fl_X11_194 rfl (by decide), ?_⟩
  refine List.forall_mem_cons.mpr ⟨ze_iload_n (k := 1) (by decide +kernel) rfl, ?_⟩
  refine List.forall_mem_cons.mpr ⟨ze_iald (by decide +kernel), ?_⟩
  refine List.forall_mem_cons.mpr ⟨ze_iret (by decide +kernel) rfl, ?_⟩
  refine List.forall_mem_cons.mpr ⟨ze_aload_n (k := 0) (by decide +kernel) rfl, ?_⟩
  refine List.forall_mem_cons.mpr ⟨ze_getL (by decide +kernel) fl_X11_57 rfl (by decide), ?_⟩
  refine List.forall_mem_cons.mpr ⟨ze_getL (by decide +kernel) fl_X11_197 rfl (by decide), ?_⟩
  refine List.forall_mem_cons.mpr ⟨ze_iload_n (k := 1) (by decide +kernel) rfl, ?_⟩
  refine List.forall_mem_cons.mpr ⟨ze_iald (by decide +kernel), ?_⟩
  refine List.forall_mem_cons.mpr ⟨ze_iret (by decide +kernel) rfl, ?_⟩
  exact fun _ h => absurd h List.not_mem_nil
theorem vX11_year {l : Launch} {G : GT} {d : Nat} {av : List Value} {Q : Po} {σ : Mm} (cs : List (Nat × List Nat)) (k : Nat) (h : vc l G d mX11_year TX11_year Q cs k TX11_year (lv_args 0 av) [] σ) (hlen : (lg_sl av).length ≤ mX11_year.2.2.1 := by exact Nat.le_of_ble_eq_true rfl) : MW l G d mX11_year av σ Q := mw_vc TX11_year_ok mc_X11_year rfl hlen cs k rfl h
theorem wX11_year {l : Launch} {G : GT} {d : Nat} {Q : Po} {pc : Nat} {lv : Lv} {st : List Value} {σ : Mm} (cs : List (Nat × List Nat)) (k : Nat) (h : vc l G d mX11_year TX11_year Q cs k (drp TX11_year pc) lv st σ) (hpc : hdp (drp TX11_year pc) = pc := by rfl) : Wp l G d mX11_year pc lv st σ Q := wp_vc TX11_year_ok cs k hpc h
def TX11_costs : List In := [(0, 1, zt_iload 3), (1, 4, zt_if_lt 9), (4, 5, zt_iload 3), (5, 6, zt_ic 3), (6, 9, zt_icmp_le 13), (9, 12, zt_lc (-1000000 : Int64)), (12, 13, zt_lret), (13, 14, zt_aload 0), (14, 15, zt_iload 1), (15, 16, zt_iload 2), (16, 19, zt_callVF mX11_isNode 2 19), (19, 22, zt_if_ne 26), (22, 25, zt_lc (-1 : Int64)), (25, 26, zt_lret), (26, 27, zt_aload 0), (27, 30, zt_getL 19 8), (30, 31, zt_aload 0), (31, 34, zt_getL 19 1), (34, 35, zt_ic 0), (35, 36, zt_ic 0), (36, 39, zt_callVF mX8_reckon 3 16), (39, 41, zt_astoreF 4), (41, 42, zt_iload 1), (42, 43, zt_iload 2), (43, 46, zt_callSF mX8_nodeOf 2), (46, 48, zt_istoreF 5), (48, 49, zt_iload 3), (49, 52, zt_if_ne 62), (52, 54, zt_aload 4), (54, 57, zt_getL 15 0), (57, 59, zt_iload 5), (59, 60, zt_iald), (60, 61, zt_i2l), (61, 62, zt_lret), (62, 63, zt_iload 3), (63, 64, zt_ic 1), (64, 65, zt_isub), (65, 66, zt_aload 0), (66, 69, zt_getL 19 8), (69, 70, zt_iload 1), (70, 72, zt_aload 4), (72, 75, zt_getI 15 6), (75, 78, zt_callVF mX8_lastAllowed 2 16), (78, 81, zt_icmp_gt 99), (81, 82, zt_aload 0), (82, 85, zt_getL 19 8), (85, 87, zt_aload 4), (87, 89, zt_iload 5), (89, 90, zt_iload 3), (90, 91, zt_ic 1), (91, 92, zt_isub), (92, 95, zt_callVF mX8_costOf 3 16), (95, 96, zt_i2l), (96, 99, zt_goto 102), (99, 102, zt_lc (-1 : Int64)), (102, 103, zt_lret)]
theorem TX11_costs_ok : ∀ i ∈ TX11_costs, Ent mX11_costs i := by
  refine List.forall_mem_cons.mpr ⟨ze_iload_n (k := 3) (by decide +kernel) rfl, ?_⟩
  refine List.forall_mem_cons.mpr ⟨ze_if_lt (off := 8) (by decide +kernel) (by decide), ?_⟩
  refine List.forall_mem_cons.mpr ⟨ze_iload_n (k := 3) (by decide +kernel) rfl, ?_⟩
  refine List.forall_mem_cons.mpr ⟨ze_iconst (n := 3) (by decide +kernel) (by decide), ?_⟩
  refine List.forall_mem_cons.mpr ⟨ze_icmp_le (off := 7) (by decide +kernel) (by decide), ?_⟩
  refine List.forall_mem_cons.mpr ⟨ze_ldc2 (i := 200) (by decide +kernel) kc_X11_200, ?_⟩
  refine List.forall_mem_cons.mpr ⟨ze_lret (by decide +kernel) rfl, ?_⟩
  refine List.forall_mem_cons.mpr ⟨ze_aload_n (k := 0) (by decide +kernel) rfl, ?_⟩
  refine List.forall_mem_cons.mpr ⟨ze_iload_n (k := 1) (by decide +kernel) rfl, ?_⟩
  refine List.forall_mem_cons.mpr ⟨ze_iload_n (k := 2) (by decide +kernel) rfl, ?_⟩
  refine List.forall_mem_cons.mpr ⟨ze_callVF (idx := 165) (by decide +kernel) ml_X11_165 mv_X11_isNode rfl, ?_⟩
  refine List.forall_mem_cons.mpr ⟨ze_if_ne (off := 7) (by decide +kernel) (by decide), ?_⟩
  refine List.forall_mem_cons.mpr ⟨ze_ldc2 (i := 202) (by decide +kernel) kc_X11_202, ?_⟩
  refine List.forall_mem_cons.mpr ⟨ze_lret (by decide +kernel) rfl, ?_⟩
  refine List.forall_mem_cons.mpr ⟨ze_aload_n (k := 0) (by decide +kernel) rfl, ?_⟩
  refine List.forall_mem_cons.mpr ⟨ze_getL (by decide +kernel) fl_X11_57 rfl (by decide), ?_⟩
  refine List.forall_mem_cons.mpr ⟨ze_aload_n (k := 0) (by decide +kernel) rfl, ?_⟩
  refine List.forall_mem_cons.mpr ⟨ze_getL (by decide +kernel) fl_X11_17 rfl (by decide), ?_⟩
  refine List.forall_mem_cons.mpr ⟨ze_iconst (n := 0) (by decide +kernel) (by decide), ?_⟩
  refine List.forall_mem_cons.mpr ⟨ze_iconst (n := 0) (by decide +kernel) (by decide), ?_⟩
  refine List.forall_mem_cons.mpr ⟨ze_callVF (idx := 204) (by decide +kernel) ml_X11_204 mv_X8_reckon rfl, ?_⟩
  refine List.forall_mem_cons.mpr ⟨ze_astoreF (by decide +kernel) (by decide), ?_⟩
  refine List.forall_mem_cons.mpr ⟨ze_iload_n (k := 1) (by decide +kernel) rfl, ?_⟩
  refine List.forall_mem_cons.mpr ⟨ze_iload_n (k := 2) (by decide +kernel) rfl, ?_⟩
  refine List.forall_mem_cons.mpr ⟨ze_callSF (idx := 145) (by decide +kernel) ml_X11_145 ms_X8_nodeOf, ?_⟩
  refine List.forall_mem_cons.mpr ⟨ze_istoreF (by decide +kernel) (by decide), ?_⟩
  refine List.forall_mem_cons.mpr ⟨ze_iload_n (k := 3) (by decide +kernel) rfl, ?_⟩
  refine List.forall_mem_cons.mpr ⟨ze_if_ne (off := 13) (by decide +kernel) (by decide), ?_⟩
  refine List.forall_mem_cons.mpr ⟨ze_aload (by decide +kernel), ?_⟩
  refine List.forall_mem_cons.mpr ⟨ze_getL (by decide +kernel) fl_X11_208 rfl (by decide), ?_⟩
  refine List.forall_mem_cons.mpr ⟨ze_iload (by decide +kernel), ?_⟩
  refine List.forall_mem_cons.mpr ⟨ze_iald (by decide +kernel), ?_⟩
  refine List.forall_mem_cons.mpr ⟨ze_i2l (by decide +kernel), ?_⟩
  refine List.forall_mem_cons.mpr ⟨ze_lret (by decide +kernel) rfl, ?_⟩
  refine List.forall_mem_cons.mpr ⟨ze_iload_n (k := 3) (by decide +kernel) rfl, ?_⟩
  refine List.forall_mem_cons.mpr ⟨ze_iconst (n := 1) (by decide +kernel) (by decide), ?_⟩
  refine List.forall_mem_cons.mpr ⟨ze_isub (by decide +kernel), ?_⟩
  refine List.forall_mem_cons.mpr ⟨ze_aload_n (k := 0) (by decide +kernel) rfl, ?_⟩
  refine List.forall_mem_cons.mpr ⟨ze_getL (by decide +kernel) fl_X11_57 rfl (by decide), ?_⟩
  refine List.forall_mem_cons.mpr ⟨ze_iload_n (k := 1) (by decide +kernel) rfl, ?_⟩
  refine List.forall_mem_cons.mpr ⟨ze_aload (by decide +kernel), ?_⟩
  refine List.forall_mem_cons.mpr ⟨ze_getI (by decide +kernel) fl_X11_213 rfl, ?_⟩
  refine List.forall_mem_cons.mpr ⟨ze_callVF (idx := 216) (by decide +kernel) ml_X11_216 mv_X8_lastAllowed rfl, ?_⟩
  refine List.forall_mem_cons.mpr ⟨ze_icmp_gt (off := 21) (by decide +kernel) (by decide), ?_⟩
  refine List.forall_mem_cons.mpr ⟨ze_aload_n (k := 0) (by decide +kernel) rfl, ?_⟩
  refine List.forall_mem_cons.mpr ⟨ze_getL (by decide +kernel) fl_X11_57 rfl (by decide), ?_⟩
  refine List.forall_mem_cons.mpr ⟨ze_aload (by decide +kernel), ?_⟩
  refine List.forall_mem_cons.mpr ⟨ze_iload (by decide +kernel), ?_⟩
  refine List.forall_mem_cons.mpr ⟨ze_iload_n (k := 3) (by decide +kernel) rfl, ?_⟩
  refine List.forall_mem_cons.mpr ⟨ze_iconst (n := 1) (by decide +kernel) (by decide), ?_⟩
  refine List.forall_mem_cons.mpr ⟨ze_isub (by decide +kernel), ?_⟩
  refine List.forall_mem_cons.mpr ⟨ze_callVF (idx := 219) (by decide +kernel) ml_X11_219 mv_X8_costOf rfl, ?_⟩
  refine List.forall_mem_cons.mpr ⟨ze_i2l (by decide +kernel), ?_⟩
  refine List.forall_mem_cons.mpr ⟨ze_goto (off := 6) (by decide +kernel) (by decide), ?_⟩
  refine List.forall_mem_cons.mpr ⟨ze_ldc2 (i := 202) (by decide +kernel) kc_X11_202, ?_⟩
  refine List.forall_mem_cons.mpr ⟨ze_lret (by decide +kernel) rfl, ?_⟩
  exact fun _ h => absurd h List.not_mem_nil
theorem vX11_costs {l : Launch} {G : GT} {d : Nat} {av : List Value} {Q : Po} {σ : Mm} (cs : List (Nat × List Nat)) (k : Nat) (h : vc l G d mX11_costs TX11_costs Q cs k TX11_costs (lv_args 0 av) [] σ) (hlen : (lg_sl av).length ≤ mX11_costs.2.2.1 := by exact Nat.le_of_ble_eq_true rfl) : MW l G d mX11_costs av σ Q := mw_vc TX11_costs_ok mc_X11_costs rfl hlen cs k rfl h
theorem wX11_costs {l : Launch} {G : GT} {d : Nat} {Q : Po} {pc : Nat} {lv : Lv} {st : List Value} {σ : Mm} (cs : List (Nat × List Nat)) (k : Nat) (h : vc l G d mX11_costs TX11_costs Q cs k (drp TX11_costs pc) lv st σ) (hpc : hdp (drp TX11_costs pc) = pc := by rfl) : Wp l G d mX11_costs pc lv st σ Q := wp_vc TX11_costs_ok cs k hpc h
def TX11_best : List In := [(0, 1, zt_aload 0), (1, 2, zt_iload 1), (2, 3, zt_iload 2), (3, 6, zt_callVF mX11_isNode 2 19), (6, 9, zt_if_eq 34), (9, 10, zt_aload 0), (10, 13, zt_getL 19 8), (13, 14, zt_aload 0), (14, 17, zt_getL 19 1), (17, 18, zt_ic 0), (18, 19, zt_ic 0), (19, 22, zt_callVF mX8_reckon 3 16), (22, 25, zt_getL 15 2), (25, 26, zt_iload 1), (26, 27, zt_iload 2), (27, 30, zt_callSF mX8_nodeOf 2), (30, 31, zt_iald), (31, 34, zt_goto 35), (34, 35, zt_ic (-1)), (35, 36, zt_iret)]
theorem TX11_best_ok : ∀ i ∈ TX11_best, Ent mX11_best i := by
  refine List.forall_mem_cons.mpr ⟨ze_aload_n (k := 0) (by decide +kernel) rfl, ?_⟩
  refine List.forall_mem_cons.mpr ⟨ze_iload_n (k := 1) (by decide +kernel) rfl, ?_⟩
  refine List.forall_mem_cons.mpr ⟨ze_iload_n (k := 2) (by decide +kernel) rfl, ?_⟩
  refine List.forall_mem_cons.mpr ⟨ze_callVF (idx := 165) (by decide +kernel) ml_X11_165 mv_X11_isNode rfl, ?_⟩
  refine List.forall_mem_cons.mpr ⟨ze_if_eq (off := 28) (by decide +kernel) (by decide), ?_⟩
  refine List.forall_mem_cons.mpr ⟨ze_aload_n (k := 0) (by decide +kernel) rfl, ?_⟩
  refine List.forall_mem_cons.mpr ⟨ze_getL (by decide +kernel) fl_X11_57 rfl (by decide), ?_⟩
  refine List.forall_mem_cons.mpr ⟨ze_aload_n (k := 0) (by decide +kernel) rfl, ?_⟩
  refine List.forall_mem_cons.mpr ⟨ze_getL (by decide +kernel) fl_X11_17 rfl (by decide), ?_⟩
  refine List.forall_mem_cons.mpr ⟨ze_iconst (n := 0) (by decide +kernel) (by decide), ?_⟩
  refine List.forall_mem_cons.mpr ⟨ze_iconst (n := 0) (by decide +kernel) (by decide), ?_⟩
  refine List.forall_mem_cons.mpr ⟨ze_callVF (idx := 204) (by decide +kernel) ml_X11_204 mv_X8_reckon rfl, ?_⟩
  refine List.forall_mem_cons.mpr ⟨ze_getL (by decide +kernel) fl_X11_223 rfl (by decide), ?_⟩
  refine List.forall_mem_cons.mpr ⟨ze_iload_n (k := 1) (by decide +kernel) rfl, ?_⟩
  refine List.forall_mem_cons.mpr ⟨ze_iload_n (k := 2) (by decide +kernel) rfl, ?_⟩
  refine List.forall_mem_cons.mpr ⟨ze_callSF (idx := 145) (by decide +kernel) ml_X11_145 ms_X8_nodeOf, ?_⟩
  refine List.forall_mem_cons.mpr ⟨ze_iald (by decide +kernel), ?_⟩
  refine List.forall_mem_cons.mpr ⟨ze_goto (off := 4) (by decide +kernel) (by decide), ?_⟩
  refine List.forall_mem_cons.mpr ⟨ze_iconst (n := -1) (by decide +kernel) (by decide), ?_⟩
  refine List.forall_mem_cons.mpr ⟨ze_iret (by decide +kernel) rfl, ?_⟩
  exact fun _ h => absurd h List.not_mem_nil
theorem vX11_best {l : Launch} {G : GT} {d : Nat} {av : List Value} {Q : Po} {σ : Mm} (cs : List (Nat × List Nat)) (k : Nat) (h : vc l G d mX11_best TX11_best Q cs k TX11_best (lv_args 0 av) [] σ) (hlen : (lg_sl av).length ≤ mX11_best.2.2.1 := by exact Nat.le_of_ble_eq_true rfl) : MW l G d mX11_best av σ Q := mw_vc TX11_best_ok mc_X11_best rfl hlen cs k rfl h
theorem wX11_best {l : Launch} {G : GT} {d : Nat} {Q : Po} {pc : Nat} {lv : Lv} {st : List Value} {σ : Mm} (cs : List (Nat × List Nat)) (k : Nat) (h : vc l G d mX11_best TX11_best Q cs k (drp TX11_best pc) lv st σ) (hpc : hdp (drp TX11_best pc) = pc := by rfl) : Wp l G d mX11_best pc lv st σ Q := wp_vc TX11_best_ok cs k hpc h
def TX11_up : List In := [(0, 1, zt_aload 0), (1, 2, zt_ic 0), (2, 3, zt_ic 0), (3, 4, zt_ic 0), (4, 5, zt_ic 0), (5, 6, zt_ic 1), (6, 9, zt_callVF mX11_act 5 19), (9, 10, zt_iret)]
theorem TX11_up_ok : ∀ i ∈ TX11_up, Ent mX11_up i := by
  refine List.forall_mem_cons.mpr ⟨ze_aload_n (k := 0) (by decide +kernel) rfl, ?_⟩
  refine List.forall_mem_cons.mpr ⟨ze_iconst (n := 0) (by decide +kernel) (by decide), ?_⟩
  refine List.forall_mem_cons.mpr ⟨ze_iconst (n := 0) (by decide +kernel) (by decide), ?_⟩
  refine List.forall_mem_cons.mpr ⟨ze_iconst (n := 0) (by decide +kernel) (by decide), ?_⟩
  refine List.forall_mem_cons.mpr ⟨ze_iconst (n := 0) (by decide +kernel) (by decide), ?_⟩
  refine List.forall_mem_cons.mpr ⟨ze_iconst (n := 1) (by decide +kernel) (by decide), ?_⟩
  refine List.forall_mem_cons.mpr ⟨ze_callVF (idx := 226) (by decide +kernel) ml_X11_226 mv_X11_act rfl, ?_⟩
  refine List.forall_mem_cons.mpr ⟨ze_iret (by decide +kernel) rfl, ?_⟩
  exact fun _ h => absurd h List.not_mem_nil
theorem vX11_up {l : Launch} {G : GT} {d : Nat} {av : List Value} {Q : Po} {σ : Mm} (cs : List (Nat × List Nat)) (k : Nat) (h : vc l G d mX11_up TX11_up Q cs k TX11_up (lv_args 0 av) [] σ) (hlen : (lg_sl av).length ≤ mX11_up.2.2.1 := by exact Nat.le_of_ble_eq_true rfl) : MW l G d mX11_up av σ Q := mw_vc TX11_up_ok mc_X11_up rfl hlen cs k rfl h
theorem wX11_up {l : Launch} {G : GT} {d : Nat} {Q : Po} {pc : Nat} {lv : Lv} {st : List Value} {σ : Mm} (cs : List (Nat × List Nat)) (k : Nat) (h : vc l G d mX11_up TX11_up Q cs k (drp TX11_up pc) lv st σ) (hpc : hdp (drp TX11_up pc) = pc := by rfl) : Wp l G d mX11_up pc lv st σ Q := wp_vc TX11_up_ok cs k hpc h
def TX11_down : List In := [(0, 1, zt_aload 0), (1, 2, zt_ic 1), (2, 3, zt_ic 0), (3, 4, zt_ic 0), (4, 5, zt_ic 0), (5, 6, zt_ic 1), (6, 9, zt_callVF mX11_act 5 19), (9, 10, zt_iret)]
theorem TX11_down_ok : ∀ i ∈ TX11_down, Ent mX11_down i := by
  refine List.forall_mem_cons.mpr ⟨ze_aload_n (k := 0) (by decide +kernel) rfl, ?_⟩
  refine List.forall_mem_cons.mpr ⟨ze_iconst (n := 1) (by decide +kernel) (by decide), ?_⟩
  refine List.forall_mem_cons.mpr ⟨ze_iconst (n := 0) (by decide +kernel) (by decide), ?_⟩
  refine List.forall_mem_cons.mpr ⟨ze_iconst (n := 0) (by decide +kernel) (by decide), ?_⟩
  refine List.forall_mem_cons.mpr ⟨ze_iconst (n := 0) (by decide +kernel) (by decide), ?_⟩
  refine List.forall_mem_cons.mpr ⟨ze_iconst (n := 1) (by decide +kernel) (by decide), ?_⟩
  refine List.forall_mem_cons.mpr ⟨ze_callVF (idx := 226) (by decide +kernel) ml_X11_226 mv_X11_act rfl, ?_⟩
  refine List.forall_mem_cons.mpr ⟨ze_iret (by decide +kernel) rfl, ?_⟩
  exact fun _ h => absurd h List.not_mem_nil
theorem vX11_down {l : Launch} {G : GT} {d : Nat} {av : List Value} {Q : Po} {σ : Mm} (cs : List (Nat × List Nat)) (k : Nat) (h : vc l G d mX11_down TX11_down Q cs k TX11_down (lv_args 0 av) [] σ) (hlen : (lg_sl av).length ≤ mX11_down.2.2.1 := by exact Nat.le_of_ble_eq_true rfl) : MW l G d mX11_down av σ Q := mw_vc TX11_down_ok mc_X11_down rfl hlen cs k rfl h
theorem wX11_down {l : Launch} {G : GT} {d : Nat} {Q : Po} {pc : Nat} {lv : Lv} {st : List Value} {σ : Mm} (cs : List (Nat × List Nat)) (k : Nat) (h : vc l G d mX11_down TX11_down Q cs k (drp TX11_down pc) lv st σ) (hpc : hdp (drp TX11_down pc) = pc := by rfl) : Wp l G d mX11_down pc lv st σ Q := wp_vc TX11_down_ok cs k hpc h
def TX11_call : List In := [(0, 1, zt_aload 0), (1, 2, zt_ic 2), (2, 3, zt_ic 0), (3, 4, zt_ic 0), (4, 5, zt_ic 0), (5, 6, zt_ic 1), (6, 9, zt_callVF mX11_act 5 19), (9, 10, zt_iret)]
theorem TX11_call_ok : ∀ i ∈ TX11_call, Ent mX11_call i := by
  refine List.forall_mem_cons.mpr ⟨ze_aload_n (k := 0) (by decide +kernel) rfl, ?_⟩
  refine List.forall_mem_cons.mpr ⟨ze_iconst (n := 2) (by decide +kernel) (by decide), ?_⟩
  refine List.forall_mem_cons.mpr ⟨ze_iconst (n := 0) (by decide +kernel) (by decide), ?_⟩
  refine List.forall_mem_cons.mpr ⟨ze_iconst (n := 0) (by decide +kernel) (by decide), ?_⟩
  refine List.forall_mem_cons.mpr ⟨ze_iconst (n := 0) (by decide +kernel) (by decide), ?_⟩
  refine List.forall_mem_cons.mpr ⟨ze_iconst (n := 1) (by decide +kernel) (by decide), ?_⟩
  refine List.forall_mem_cons.mpr ⟨ze_callVF (idx := 226) (by decide +kernel) ml_X11_226 mv_X11_act rfl, ?_⟩
  refine List.forall_mem_cons.mpr ⟨ze_iret (by decide +kernel) rfl, ?_⟩
  exact fun _ h => absurd h List.not_mem_nil
theorem vX11_call {l : Launch} {G : GT} {d : Nat} {av : List Value} {Q : Po} {σ : Mm} (cs : List (Nat × List Nat)) (k : Nat) (h : vc l G d mX11_call TX11_call Q cs k TX11_call (lv_args 0 av) [] σ) (hlen : (lg_sl av).length ≤ mX11_call.2.2.1 := by exact Nat.le_of_ble_eq_true rfl) : MW l G d mX11_call av σ Q := mw_vc TX11_call_ok mc_X11_call rfl hlen cs k rfl h
theorem wX11_call {l : Launch} {G : GT} {d : Nat} {Q : Po} {pc : Nat} {lv : Lv} {st : List Value} {σ : Mm} (cs : List (Nat × List Nat)) (k : Nat) (h : vc l G d mX11_call TX11_call Q cs k (drp TX11_call pc) lv st σ) (hpc : hdp (drp TX11_call pc) = pc := by rfl) : Wp l G d mX11_call pc lv st σ Q := wp_vc TX11_call_ok cs k hpc h
def TX11_refund : List In := [(0, 1, zt_aload 0), (1, 2, zt_ic 3), (2, 3, zt_ic 0), (3, 4, zt_ic 0), (4, 5, zt_ic 0), (5, 6, zt_ic 1), (6, 9, zt_callVF mX11_act 5 19), (9, 10, zt_iret)]
theorem TX11_refund_ok : ∀ i ∈ TX11_refund, Ent mX11_refund i := by
  refine List.forall_mem_cons.mpr ⟨ze_aload_n (k := 0) (by decide +kernel) rfl, ?_⟩
  refine List.forall_mem_cons.mpr ⟨ze_iconst (n := 3) (by decide +kernel) (by decide), ?_⟩
  refine List.forall_mem_cons.mpr ⟨ze_iconst (n := 0) (by decide +kernel) (by decide), ?_⟩
  refine List.forall_mem_cons.mpr ⟨ze_iconst (n := 0) (by decide +kernel) (by decide), ?_⟩
  refine List.forall_mem_cons.mpr ⟨ze_iconst (n := 0) (by decide +kernel) (by decide), ?_⟩
  refine List.forall_mem_cons.mpr ⟨ze_iconst (n := 1) (by decide +kernel) (by decide), ?_⟩
  refine List.forall_mem_cons.mpr ⟨ze_callVF (idx := 226) (by decide +kernel) ml_X11_226 mv_X11_act rfl, ?_⟩
  refine List.forall_mem_cons.mpr ⟨ze_iret (by decide +kernel) rfl, ?_⟩
  exact fun _ h => absurd h List.not_mem_nil
theorem vX11_refund {l : Launch} {G : GT} {d : Nat} {av : List Value} {Q : Po} {σ : Mm} (cs : List (Nat × List Nat)) (k : Nat) (h : vc l G d mX11_refund TX11_refund Q cs k TX11_refund (lv_args 0 av) [] σ) (hlen : (lg_sl av).length ≤ mX11_refund.2.2.1 := by exact Nat.le_of_ble_eq_true rfl) : MW l G d mX11_refund av σ Q := mw_vc TX11_refund_ok mc_X11_refund rfl hlen cs k rfl h
theorem wX11_refund {l : Launch} {G : GT} {d : Nat} {Q : Po} {pc : Nat} {lv : Lv} {st : List Value} {σ : Mm} (cs : List (Nat × List Nat)) (k : Nat) (h : vc l G d mX11_refund TX11_refund Q cs k (drp TX11_refund pc) lv st σ) (hpc : hdp (drp TX11_refund pc) = pc := by rfl) : Wp l G d mX11_refund pc lv st σ Q := wp_vc TX11_refund_ok cs k hpc h
def TX11_withdraw : List In := [(0, 1, zt_aload 0), (1, 2, zt_ic 4), (2, 3, zt_ic 0), (3, 4, zt_ic 0), (4, 5, zt_ic 0), (5, 6, zt_ic 1), (6, 9, zt_callVF mX11_act 5 19), (9, 10, zt_iret)]
theorem TX11_withdraw_ok : ∀ i ∈ TX11_withdraw, Ent mX11_withdraw i := by
  refine List.forall_mem_cons.mpr ⟨ze_aload_n (k := 0) (by decide +kernel) rfl, ?_⟩
  refine List.forall_mem_cons.mpr ⟨ze_iconst (n := 4) (by decide +kernel) (by decide), ?_⟩
  refine List.forall_mem_cons.mpr ⟨ze_iconst (n := 0) (by decide +kernel) (by decide), ?_⟩
  refine List.forall_mem_cons.mpr ⟨ze_iconst (n := 0) (by decide +kernel) (by decide), ?_⟩
  refine List.forall_mem_cons.mpr ⟨ze_iconst (n := 0) (by decide +kernel) (by decide), ?_⟩
  refine List.forall_mem_cons.mpr ⟨ze_iconst (n := 1) (by decide +kernel) (by decide), ?_⟩
  refine List.forall_mem_cons.mpr ⟨ze_callVF (idx := 226) (by decide +kernel) ml_X11_226 mv_X11_act rfl, ?_⟩
  refine List.forall_mem_cons.mpr ⟨ze_iret (by decide +kernel) rfl, ?_⟩
  exact fun _ h => absurd h List.not_mem_nil
theorem vX11_withdraw {l : Launch} {G : GT} {d : Nat} {av : List Value} {Q : Po} {σ : Mm} (cs : List (Nat × List Nat)) (k : Nat) (h : vc l G d mX11_withdraw TX11_withdraw Q cs k TX11_withdraw (lv_args 0 av) [] σ) (hlen : (lg_sl av).length ≤ mX11_withdraw.2.2.1 := by exact Nat.le_of_ble_eq_true rfl) : MW l G d mX11_withdraw av σ Q := mw_vc TX11_withdraw_ok mc_X11_withdraw rfl hlen cs k rfl h
theorem wX11_withdraw {l : Launch} {G : GT} {d : Nat} {Q : Po} {pc : Nat} {lv : Lv} {st : List Value} {σ : Mm} (cs : List (Nat × List Nat)) (k : Nat) (h : vc l G d mX11_withdraw TX11_withdraw Q cs k (drp TX11_withdraw pc) lv st σ) (hpc : hdp (drp TX11_withdraw pc) = pc := by rfl) : Wp l G d mX11_withdraw pc lv st σ Q := wp_vc TX11_withdraw_ok cs k hpc h
def TX11_instal : List In := [(0, 1, zt_aload 0), (1, 2, zt_ic 5), (2, 3, zt_iload 1), (3, 4, zt_iload 2), (4, 5, zt_ic 0), (5, 6, zt_ic 1), (6, 9, zt_callVF mX11_act 5 19), (9, 10, zt_iret)]
theorem TX11_instal_ok : ∀ i ∈ TX11_instal, Ent mX11_instal i := by
  refine List.forall_mem_cons.mpr ⟨ze_aload_n (k := 0) (by decide +kernel) rfl, ?_⟩
  refine List.forall_mem_cons.mpr ⟨ze_iconst (n := 5) (by decide +kernel) (by decide), ?_⟩
  refine List.forall_mem_cons.mpr ⟨ze_iload_n (k := 1) (by decide +kernel) rfl, ?_⟩
  refine List.forall_mem_cons.mpr ⟨ze_iload_n (k := 2) (by decide +kernel) rfl, ?_⟩
  refine List.forall_mem_cons.mpr ⟨ze_iconst (n := 0) (by decide +kernel) (by decide), ?_⟩
  refine List.forall_mem_cons.mpr ⟨ze_iconst (n := 1) (by decide +kernel) (by decide), ?_⟩
  refine List.forall_mem_cons.mpr ⟨ze_callVF (idx := 226) (by decide +kernel) ml_X11_226 mv_X11_act rfl, ?_⟩
  refine List.forall_mem_cons.mpr ⟨ze_iret (by decide +kernel) rfl, ?_⟩
  exact fun _ h => absurd h List.not_mem_nil
theorem vX11_instal {l : Launch} {G : GT} {d : Nat} {av : List Value} {Q : Po} {σ : Mm} (cs : List (Nat × List Nat)) (k : Nat) (h : vc l G d mX11_instal TX11_instal Q cs k TX11_instal (lv_args 0 av) [] σ) (hlen : (lg_sl av).length ≤ mX11_instal.2.2.1 := by exact Nat.le_of_ble_eq_true rfl) : MW l G d mX11_instal av σ Q := mw_vc TX11_instal_ok mc_X11_instal rfl hlen cs k rfl h
theorem wX11_instal {l : Launch} {G : GT} {d : Nat} {Q : Po} {pc : Nat} {lv : Lv} {st : List Value} {σ : Mm} (cs : List (Nat × List Nat)) (k : Nat) (h : vc l G d mX11_instal TX11_instal Q cs k (drp TX11_instal pc) lv st σ) (hpc : hdp (drp TX11_instal pc) = pc := by rfl) : Wp l G d mX11_instal pc lv st σ Q := wp_vc TX11_instal_ok cs k hpc h
def TX11_tell : List In := [(0, 1, zt_aload 0), (1, 3, zt_ic 6), (3, 4, zt_iload 1), (4, 5, zt_iload 2), (5, 6, zt_iload 3), (6, 7, zt_ic 1), (7, 10, zt_callVF mX11_act 5 19), (10, 11, zt_iret)]
theorem TX11_tell_ok : ∀ i ∈ TX11_tell, Ent mX11_tell i := by
  refine List.forall_mem_cons.mpr ⟨ze_aload_n (k := 0) (by decide +kernel) rfl, ?_⟩
  refine List.forall_mem_cons.mpr ⟨ze_bipush (n := 6) (by decide +kernel) (by decide), ?_⟩
  refine List.forall_mem_cons.mpr ⟨ze_iload_n (k := 1) (by decide +kernel) rfl, ?_⟩
  refine List.forall_mem_cons.mpr ⟨ze_iload_n (k := 2) (by decide +kernel) rfl, ?_⟩
  refine List.forall_mem_cons.mpr ⟨ze_iload_n (k := 3) (by decide +kernel) rfl, ?_⟩
  refine List.forall_mem_cons.mpr ⟨ze_iconst (n := 1) (by decide +kernel) (by decide), ?_⟩
  refine List.forall_mem_cons.mpr ⟨ze_callVF (idx := 226) (by decide +kernel) ml_X11_226 mv_X11_act rfl, ?_⟩
  refine List.forall_mem_cons.mpr ⟨ze_iret (by decide +kernel) rfl, ?_⟩
  exact fun _ h => absurd h List.not_mem_nil
theorem vX11_tell {l : Launch} {G : GT} {d : Nat} {av : List Value} {Q : Po} {σ : Mm} (cs : List (Nat × List Nat)) (k : Nat) (h : vc l G d mX11_tell TX11_tell Q cs k TX11_tell (lv_args 0 av) [] σ) (hlen : (lg_sl av).length ≤ mX11_tell.2.2.1 := by exact Nat.le_of_ble_eq_true rfl) : MW l G d mX11_tell av σ Q := mw_vc TX11_tell_ok mc_X11_tell rfl hlen cs k rfl h
theorem wX11_tell {l : Launch} {G : GT} {d : Nat} {Q : Po} {pc : Nat} {lv : Lv} {st : List Value} {σ : Mm} (cs : List (Nat × List Nat)) (k : Nat) (h : vc l G d mX11_tell TX11_tell Q cs k (drp TX11_tell pc) lv st σ) (hpc : hdp (drp TX11_tell pc) = pc := by rfl) : Wp l G d mX11_tell pc lv st σ Q := wp_vc TX11_tell_ok cs k hpc h
def TX11_doBest : List In := [(0, 1, zt_aload 0), (1, 3, zt_ic 7), (3, 4, zt_ic 0), (4, 5, zt_ic 0), (5, 6, zt_ic 0), (6, 7, zt_ic 1), (7, 10, zt_callVF mX11_act 5 19), (10, 11, zt_iret)]
theorem TX11_doBest_ok : ∀ i ∈ TX11_doBest, Ent mX11_doBest i := by
  refine List.forall_mem_cons.mpr ⟨ze_aload_n (k := 0) (by decide +kernel) rfl, ?_⟩
  refine List.forall_mem_cons.mpr ⟨ze_bipush (n := 7) (by decide +kernel) (by decide), ?_⟩
  refine List.forall_mem_cons.mpr ⟨ze_iconst (n := 0) (by decide +kernel) (by decide), ?_⟩
  refine List.forall_mem_cons.mpr ⟨ze_iconst (n := 0) (by decide +kernel) (by decide), ?_⟩
  refine List.forall_mem_cons.mpr ⟨ze_iconst (n := 0) (by decide +kernel) (by decide), ?_⟩
  refine List.forall_mem_cons.mpr ⟨ze_iconst (n := 1) (by decide +kernel) (by decide), ?_⟩
  refine List.forall_mem_cons.mpr ⟨ze_callVF (idx := 226) (by decide +kernel) ml_X11_226 mv_X11_act rfl, ?_⟩
  refine List.forall_mem_cons.mpr ⟨ze_iret (by decide +kernel) rfl, ?_⟩
  exact fun _ h => absurd h List.not_mem_nil
theorem vX11_doBest {l : Launch} {G : GT} {d : Nat} {av : List Value} {Q : Po} {σ : Mm} (cs : List (Nat × List Nat)) (k : Nat) (h : vc l G d mX11_doBest TX11_doBest Q cs k TX11_doBest (lv_args 0 av) [] σ) (hlen : (lg_sl av).length ≤ mX11_doBest.2.2.1 := by exact Nat.le_of_ble_eq_true rfl) : MW l G d mX11_doBest av σ Q := mw_vc TX11_doBest_ok mc_X11_doBest rfl hlen cs k rfl h
theorem wX11_doBest {l : Launch} {G : GT} {d : Nat} {Q : Po} {pc : Nat} {lv : Lv} {st : List Value} {σ : Mm} (cs : List (Nat × List Nat)) (k : Nat) (h : vc l G d mX11_doBest TX11_doBest Q cs k (drp TX11_doBest pc) lv st σ) (hpc : hdp (drp TX11_doBest pc) = pc := by rfl) : Wp l G d mX11_doBest pc lv st σ Q := wp_vc TX11_doBest_ok cs k hpc h
def TX11_adopt : List In := [(0, 1, zt_aload 0), (1, 3, zt_ic 8), (3, 4, zt_ic 0), (4, 5, zt_ic 0), (5, 6, zt_ic 0), (6, 7, zt_ic 1), (7, 10, zt_callVF mX11_act 5 19), (10, 11, zt_iret)]
theorem TX11_adopt_ok : ∀ i ∈ TX11_adopt, Ent mX11_adopt i := by
  refine List.forall_mem_cons.mpr ⟨ze_aload_n (k := 0) (by decide +kernel) rfl, ?_⟩
  refine List.forall_mem_cons.mpr ⟨ze_bipush (n := 8) (by decide +kernel) (by decide), ?_⟩
  refine List.forall_mem_cons.mpr ⟨ze_iconst (n := 0) (by decide +kernel) (by decide), ?_⟩
  refine List.forall_mem_cons.mpr ⟨ze_iconst (n := 0) (by decide +kernel) (by decide), ?_⟩
  refine List.forall_mem_cons.mpr ⟨ze_iconst (n := 0) (by decide +kernel) (by decide), ?_⟩
  refine List.forall_mem_cons.mpr ⟨ze_iconst (n := 1) (by decide +kernel) (by decide), ?_⟩
  refine List.forall_mem_cons.mpr ⟨ze_callVF (idx := 226) (by decide +kernel) ml_X11_226 mv_X11_act rfl, ?_⟩
  refine List.forall_mem_cons.mpr ⟨ze_iret (by decide +kernel) rfl, ?_⟩
  exact fun _ h => absurd h List.not_mem_nil
theorem vX11_adopt {l : Launch} {G : GT} {d : Nat} {av : List Value} {Q : Po} {σ : Mm} (cs : List (Nat × List Nat)) (k : Nat) (h : vc l G d mX11_adopt TX11_adopt Q cs k TX11_adopt (lv_args 0 av) [] σ) (hlen : (lg_sl av).length ≤ mX11_adopt.2.2.1 := by exact Nat.le_of_ble_eq_true rfl) : MW l G d mX11_adopt av σ Q := mw_vc TX11_adopt_ok mc_X11_adopt rfl hlen cs k rfl h
theorem wX11_adopt {l : Launch} {G : GT} {d : Nat} {Q : Po} {pc : Nat} {lv : Lv} {st : List Value} {σ : Mm} (cs : List (Nat × List Nat)) (k : Nat) (h : vc l G d mX11_adopt TX11_adopt Q cs k (drp TX11_adopt pc) lv st σ) (hpc : hdp (drp TX11_adopt pc) = pc := by rfl) : Wp l G d mX11_adopt pc lv st σ Q := wp_vc TX11_adopt_ok cs k hpc h
def TX11_follow : List In := [(0, 1, zt_aload 0), (1, 3, zt_ic 9), (3, 4, zt_ic 0), (4, 5, zt_ic 0), (5, 6, zt_ic 0), (6, 7, zt_ic 1), (7, 10, zt_callVF mX11_act 5 19), (10, 11, zt_iret)]
theorem TX11_follow_ok : ∀ i ∈ TX11_follow, Ent mX11_follow i := by
  refine List.forall_mem_cons.mpr ⟨ze_aload_n (k := 0) (by decide +kernel) rfl, ?_⟩
  refine List.forall_mem_cons.mpr ⟨ze_bipush (n := 9) (by decide +kernel) (by decide), ?_⟩
  refine List.forall_mem_cons.mpr ⟨ze_iconst (n := 0) (by decide +kernel) (by decide), ?_⟩
  refine List.forall_mem_cons.mpr ⟨ze_iconst (n := 0) (by decide +kernel) (by decide), ?_⟩
  refine List.forall_mem_cons.mpr ⟨ze_iconst (n := 0) (by decide +kernel) (by decide), ?_⟩
  refine List.forall_mem_cons.mpr ⟨ze_iconst (n := 1) (by decide +kernel) (by decide), ?_⟩
  refine List.forall_mem_cons.mpr ⟨ze_callVF (idx := 226) (by decide +kernel) ml_X11_226 mv_X11_act rfl, ?_⟩
  refine List.forall_mem_cons.mpr ⟨ze_iret (by decide +kernel) rfl, ?_⟩
  exact fun _ h => absurd h List.not_mem_nil
theorem vX11_follow {l : Launch} {G : GT} {d : Nat} {av : List Value} {Q : Po} {σ : Mm} (cs : List (Nat × List Nat)) (k : Nat) (h : vc l G d mX11_follow TX11_follow Q cs k TX11_follow (lv_args 0 av) [] σ) (hlen : (lg_sl av).length ≤ mX11_follow.2.2.1 := by exact Nat.le_of_ble_eq_true rfl) : MW l G d mX11_follow av σ Q := mw_vc TX11_follow_ok mc_X11_follow rfl hlen cs k rfl h
theorem wX11_follow {l : Launch} {G : GT} {d : Nat} {Q : Po} {pc : Nat} {lv : Lv} {st : List Value} {σ : Mm} (cs : List (Nat × List Nat)) (k : Nat) (h : vc l G d mX11_follow TX11_follow Q cs k (drp TX11_follow pc) lv st σ) (hpc : hdp (drp TX11_follow pc) = pc := by rfl) : Wp l G d mX11_follow pc lv st σ Q := wp_vc TX11_follow_ok cs k hpc h
def TX11_act : List In := [(0, 1, zt_aload 0), (1, 4, zt_getL 19 10), (4, 5, zt_aload 0), (5, 8, zt_getL 19 1), (8, 11, zt_callVF mX2_save 1 11), (11, 12, zt_aload 0), (12, 15, zt_getL 19 9), (15, 16, zt_iload 1), (16, 17, zt_iload 2), (17, 18, zt_iload 3), (18, 20, zt_iload 4), (20, 23, zt_callVF mX3_attempt 4 12), (23, 25, zt_istoreF 6), (25, 27, zt_iload 6), (27, 30, zt_if_lt 55), (30, 31, zt_aload 0), (31, 34, zt_getL 19 10), (34, 35, zt_iload 1), (35, 36, zt_aload 0), (36, 39, zt_getL 19 9), (39, 42, zt_getI 12 3), (42, 43, zt_aload 0), (43, 46, zt_getL 19 1), (46, 48, zt_ic 6), (48, 49, zt_iald), (49, 52, zt_callVF mX2_enter 3 11), (52, 54, zt_iload 6), (54, 55, zt_iret), (55, 56, zt_ic (-1)), (56, 58, zt_iload 6), (58, 59, zt_isub), (59, 61, zt_istoreF 7), (61, 63, zt_iload 5), (63, 66, zt_if_eq 92), (66, 68, zt_iload 7), (68, 71, zt_if_lt 92), (71, 73, zt_iload 7), (73, 74, zt_aload 0), (74, 77, zt_getL 19 3), (77, 78, zt_alen), (78, 81, zt_icmp_ge 92), (81, 82, zt_aload 0), (82, 85, zt_getL 19 3), (85, 87, zt_iload 7), (87, 88, zt_dup2), (88, 89, zt_iald), (89, 90, zt_ic 1), (90, 91, zt_iadd), (91, 92, zt_iastoreF), (92, 93, zt_ic (-1)), (93, 94, zt_iret)]
theorem TX11_act_ok : ∀ i ∈ TX11_act, Ent mX11_act i := by
  refine List.forall_mem_cons.mpr ⟨ze_aload_n (k := 0) (by decide +kernel) rfl, ?_⟩
  refine List.forall_mem_cons.mpr ⟨ze_getL (by decide +kernel) fl_X11_73 rfl (by decide), ?_⟩
  refine List.forall_mem_cons.mpr ⟨ze_aload_n (k := 0) (by decide +kernel) rfl, ?_⟩
  refine List.forall_mem_cons.mpr ⟨ze_getL (by decide +kernel) fl_X11_17 rfl (by decide), ?_⟩
  refine List.forall_mem_cons.mpr ⟨ze_callVF (idx := 230) (by decide +kernel) ml_X11_230 mv_X2_save rfl, ?_⟩
  refine List.forall_mem_cons.mpr ⟨ze_aload_n (k := 0) (by decide +kernel) rfl, ?_⟩
  refine List.forall_mem_cons.mpr ⟨ze_getL (by decide +kernel) fl_X11_66 rfl (by decide), ?_⟩
  refine List.forall_mem_cons.mpr ⟨ze_iload_n (k := 1) (by decide +kernel) rfl, ?_⟩
  refine List.forall_mem_cons.mpr ⟨ze_iload_n (k := 2) (by decide +kernel) rfl, ?_⟩
  refine List.forall_mem_cons.mpr ⟨ze_iload_n (k := 3) (by decide +kernel) rfl, ?_⟩
  refine List.forall_mem_cons.mpr ⟨ze_iload (by decide +kernel), ?_⟩
  refine List.forall_mem_cons.mpr ⟨ze_callVF (idx := 233) (by decide +kernel) ml_X11_233 mv_X3_attempt rfl, ?_⟩
  refine List.forall_mem_cons.mpr ⟨ze_istoreF (by decide +kernel) (by decide), ?_⟩
  refine List.forall_mem_cons.mpr ⟨ze_iload (by decide +kernel), ?_⟩
  refine List.forall_mem_cons.mpr ⟨ze_if_lt (off := 28) (by decide +kernel) (by decide), ?_⟩
  refine List.forall_mem_cons.mpr ⟨ze_aload_n (k := 0) (by decide +kernel) rfl, ?_⟩
  refine List.forall_mem_cons.mpr ⟨ze_getL (by decide +kernel) fl_X11_73 rfl (by decide), ?_⟩
  refine List.forall_mem_cons.mpr ⟨ze_iload_n (k := 1) (by decide +kernel) rfl, ?_⟩
  refine List.forall_mem_cons.mpr ⟨ze_aload_n (k := 0) (by decide +kernel) rfl, ?_⟩
  refine List.forall_mem_cons.mpr ⟨ze_getL (by decide +kernel) fl_X11_66 rfl (by decide), ?_⟩
  refine List.forall_mem_cons.mpr ⟨ze_getI (by decide +kernel) fl_X11_237 rfl, ?_⟩
  refine List.forall_mem_cons.mpr ⟨ze_aload_n (k := 0) (by decide +kernel) rfl, ?_⟩
  refine List.forall_mem_cons.mpr ⟨ze_getL (by decide +kernel) fl_X11_17 rfl (by decide), ?_⟩
  refine List.forall_mem_cons.mpr ⟨ze_bipush (n := 6) (by decide +kernel) (by decide), ?_⟩
  refine List.forall_mem_cons.mpr ⟨ze_iald (by decide +kernel), ?_⟩
  refine List.forall_mem_cons.mpr ⟨ze_callVF (idx := 240) (by decide +kernel) ml_X11_240 mv_X2_enter rfl, ?_⟩
  refine List.forall_mem_cons.mpr ⟨ze_iload (by decide +kernel), ?_⟩
  refine List.forall_mem_cons.mpr ⟨ze_iret (by decide +kernel) rfl, ?_⟩
  refine List.forall_mem_cons.mpr ⟨ze_iconst (n := -1) (by decide +kernel) (by decide), ?_⟩
  refine List.forall_mem_cons.mpr ⟨ze_iload (by decide +kernel), ?_⟩
  refine List.forall_mem_cons.mpr ⟨ze_isub (by decide +kernel), ?_⟩
  refine List.forall_mem_cons.mpr ⟨ze_istoreF (by decide +kernel) (by decide), ?_⟩
  refine List.forall_mem_cons.mpr ⟨ze_iload (by decide +kernel), ?_⟩
  refine List.forall_mem_cons.mpr ⟨ze_if_eq (off := 29) (by decide +kernel) (by decide), ?_⟩
  refine List.forall_mem_cons.mpr ⟨ze_iload (by decide +kernel), ?_⟩
  refine List.forall_mem_cons.mpr ⟨ze_if_lt (off := 24) (by decide +kernel) (by decide), ?_⟩
  refine List.forall_mem_cons.mpr ⟨ze_iload (by decide +kernel), ?_⟩
  refine List.forall_mem_cons.mpr ⟨ze_aload_n (k := 0) (by decide +kernel) rfl, ?_⟩
  refine List.forall_mem_cons.mpr ⟨ze_getL (by decide +kernel) fl_X11_23 rfl (by decide), ?_⟩
  refine List.forall_mem_cons.mpr ⟨ze_alen (by decide +kernel), ?_⟩
  refine List.forall_mem_cons.mpr ⟨ze_icmp_ge (off := 14) (by decide +kernel) (by decide), ?_⟩
  refine List.forall_mem_cons.mpr ⟨ze_aload_n (k := 0) (by decide +kernel) rfl, ?_⟩
  refine List.forall_mem_cons.mpr ⟨ze_getL (by decide +kernel) fl_X11_23 rfl (by decide), ?_⟩
  refine List.forall_mem_cons.mpr ⟨ze_iload (by decide +kernel), ?_⟩
  refine List.forall_mem_cons.mpr ⟨ze_dup2 (by decide +kernel), ?_⟩
  refine List.forall_mem_cons.mpr ⟨ze_iald (by decide +kernel), ?_⟩
  refine List.forall_mem_cons.mpr ⟨ze_iconst (n := 1) (by decide +kernel) (by decide), ?_⟩
  refine List.forall_mem_cons.mpr ⟨ze_iadd (by decide +kernel), ?_⟩
  refine List.forall_mem_cons.mpr ⟨ze_iastoreF (by decide +kernel), ?_⟩
  refine List.forall_mem_cons.mpr ⟨ze_iconst (n := -1) (by decide +kernel) (by decide), ?_⟩
  refine List.forall_mem_cons.mpr ⟨ze_iret (by decide +kernel) rfl, ?_⟩
  exact fun _ h => absurd h List.not_mem_nil
theorem vX11_act {l : Launch} {G : GT} {d : Nat} {av : List Value} {Q : Po} {σ : Mm} (cs : List (Nat × List Nat)) (k : Nat) (h : vc l G d mX11_act TX11_act Q cs k TX11_act (lv_args 0 av) [] σ) (hlen : (lg_sl av).length ≤ mX11_act.2.2.1 := by exact Nat.le_of_ble_eq_true rfl) : MW l G d mX11_act av σ Q := mw_vc TX11_act_ok mc_X11_act rfl hlen cs k rfl h
theorem wX11_act {l : Launch} {G : GT} {d : Nat} {Q : Po} {pc : Nat} {lv : Lv} {st : List Value} {σ : Mm} (cs : List (Nat × List Nat)) (k : Nat) (h : vc l G d mX11_act TX11_act Q cs k (drp TX11_act pc) lv st σ) (hpc : hdp (drp TX11_act pc) = pc := by rfl) : Wp l G d mX11_act pc lv st σ Q := wp_vc TX11_act_ok cs k hpc h
def TX11_years : List In := [(0, 1, zt_aload 0), (1, 4, zt_callVF mX11_noLoan 0 19), (4, 7, zt_if_ne 18), (7, 8, zt_iload 1), (8, 9, zt_ic 1), (9, 12, zt_icmp_lt 18), (12, 13, zt_iload 1), (13, 15, zt_ic 40), (15, 18, zt_icmp_le 20), (18, 19, zt_ic (-1)), (19, 20, zt_iret), (20, 21, zt_aload 0), (21, 22, zt_lload 2), (22, 25, zt_putJ 19 13), (25, 26, zt_ic 0), (26, 28, zt_istoreF 4), (28, 30, zt_iload 4), (30, 31, zt_iload 1), (31, 34, zt_icmp_ge 74), (34, 35, zt_aload 0), (35, 38, zt_callVF mX11_chooseByDraws 0 19), (38, 39, zt_aload 0), (39, 40, zt_aload 0), (40, 43, zt_getL 19 4), (43, 44, zt_ic 0), (44, 45, zt_iald), (45, 46, zt_aload 0), (46, 49, zt_getL 19 4), (49, 50, zt_ic 1), (50, 51, zt_iald), (51, 52, zt_aload 0), (52, 55, zt_getL 19 4), (55, 56, zt_ic 2), (56, 57, zt_iald), (57, 58, zt_aload 0), (58, 61, zt_getL 19 4), (61, 62, zt_ic 3), (62, 63, zt_iald), (63, 64, zt_ic 0), (64, 67, zt_callVF mX11_act 5 19), (67, 68, zt_pop), (68, 71, zt_iincF 4 1), (71, 74, zt_goto 28), (74, 75, zt_aload 0), (75, 78, zt_getL 19 1), (78, 80, zt_ic 6), (80, 81, zt_iald), (81, 82, zt_iret)]
theorem TX11_years_ok : ∀ i ∈ TX11_years, Ent mX11_years i := by
  refine List.forall_mem_cons.mpr ⟨ze_aload_n (k := 0) (by decide +kernel) rfl, ?_⟩
  refine List.forall_mem_cons.mpr ⟨ze_callVF (idx := 111) (by decide +kernel) ml_X11_111 mv_X11_noLoan rfl, ?_⟩
  refine List.forall_mem_cons.mpr ⟨ze_if_ne (off := 14) (by decide +kernel) (by decide), ?_⟩
  refine List.forall_mem_cons.mpr ⟨ze_iload_n (k := 1) (by decide +kernel) rfl, ?_⟩
  refine List.forall_mem_cons.mpr ⟨ze_iconst (n := 1) (by decide +kernel) (by decide), ?_⟩
  refine List.forall_mem_cons.mpr ⟨ze_icmp_lt (off := 9) (by decide +kernel) (by decide), ?_⟩
  refine List.forall_mem_cons.mpr ⟨ze_iload_n (k := 1) (by decide +kernel) rfl, ?_⟩
  refine List.forall_mem_cons.mpr ⟨ze_bipush (n := 40) (by decide +kernel) (by decide), ?_⟩
  refine List.forall_mem_cons.mpr ⟨ze_icmp_le (off := 5) (by decide +kernel) (by decide), ?_⟩
  refine List.forall_mem_cons.mpr ⟨ze_iconst (n := -1) (by decide +kernel) (by decide), ?_⟩
  refine List.forall_mem_cons.mpr ⟨ze_iret (by decide +kernel) rfl, ?_⟩
  refine List.forall_mem_cons.mpr ⟨ze_aload_n (k := 0) (by decide +kernel) rfl, ?_⟩
  refine List.forall_mem_cons.mpr ⟨ze_lload_n (k := 2) (by decide +kernel) rfl, ?_⟩
  refine List.forall_mem_cons.mpr ⟨ze_putJ (by decide +kernel) fl_X11_244 ⟨_, _, _, rfl, rfl, by decide +kernel⟩ rfl, ?_⟩
  refine List.forall_mem_cons.mpr ⟨ze_iconst (n := 0) (by decide +kernel) (by decide), ?_⟩
  refine List.forall_mem_cons.mpr ⟨ze_istoreF (by decide +kernel) (by decide), ?_⟩
  refine List.forall_mem_cons.mpr ⟨ze_iload (by decide +kernel), ?_⟩
  refine List.forall_mem_cons.mpr ⟨ze_iload_n (k := 1) (by decide +kernel) rfl, ?_⟩
  refine List.forall_mem_cons.mpr ⟨ze_icmp_ge (off := 43) (by decide +kernel) (by decide), ?_⟩
  refine List.forall_mem_cons.mpr ⟨ze_aload_n (k := 0) (by decide +kernel) rfl, ?_⟩
  refine List.forall_mem_cons.mpr ⟨ze_callVF (idx := 248) (by decide +kernel) ml_X11_248 mv_X11_chooseByDraws rfl, ?_⟩
  refine List.forall_mem_cons.mpr ⟨ze_aload_n (k := 0) (by decide +kernel) rfl, ?_⟩
  refine List.forall_mem_cons.mpr ⟨ze_aload_n (k := 0) (by decide +kernel) rfl, ?_⟩
  refine List.forall_mem_cons.mpr ⟨ze_getL (by decide +kernel) fl_X11_26 rfl (by decide), ?_⟩
  refine List.forall_mem_cons.mpr ⟨ze_iconst (n := 0) (by decide +kernel) (by decide), ?_⟩
  refine List.forall_mem_cons.mpr ⟨ze_iald (by decide +kernel), ?_⟩
  refine List.forall_mem_cons.mpr ⟨ze_aload_n (k := 0) (by decide +kernel) rfl, ?_⟩
  refine List.forall_mem_cons.mpr ⟨ze_getL (by decide +kernel) fl_X11_26 rfl (by decide), ?_⟩
  refine List.forall_mem_cons.mpr ⟨ze_iconst (n := 1) (by decide +kernel) (by decide), ?_⟩
  refine List.forall_mem_cons.mpr ⟨ze_iald (by decide +kernel), ?_⟩
  refine List.forall_mem_cons.mpr ⟨ze_aload_n (k := 0) (by decide +kernel) rfl, ?_⟩
  refine List.forall_mem_cons.mpr ⟨ze_getL (by decide +kernel) fl_X11_26 rfl (by decide), ?_⟩
  refine List.forall_mem_cons.mpr ⟨ze_iconst (n := 2) (by decide +kernel) (by decide), ?_⟩
  refine List.forall_mem_cons.mpr ⟨ze_iald (by decide +kernel), ?_⟩
  refine List.forall_mem_cons.mpr ⟨ze_aload_n (k := 0) (by decide +kernel) rfl, ?_⟩
  refine List.forall_mem_cons.mpr ⟨ze_getL (by decide +kernel) fl_X11_26 rfl (by decide), ?_⟩
  refine List.forall_mem_cons.mpr ⟨ze_iconst (n := 3) (by decide +kernel) (by decide), ?_⟩
  refine List.forall_mem_cons.mpr ⟨ze_iald (by decide +kernel), ?_⟩
  refine List.forall_mem_cons.mpr ⟨ze_iconst (n := 0) (by decide +kernel) (by decide), ?_⟩
  refine List.forall_mem_cons.mpr ⟨ze_callVF (idx := 226) (by decide +kernel) ml_X11_226 mv_X11_act rfl, ?_⟩
  refine List.forall_mem_cons.mpr ⟨ze_pop (by decide +kernel), ?_⟩
  refine List.forall_mem_cons.mpr ⟨ze_iincF (n := 1) (by decide +kernel) (by decide) (by decide), ?_⟩
  refine List.forall_mem_cons.mpr ⟨ze_goto (off := -43) (by decide +kernel) (by decide), ?_⟩
  refine List.forall_mem_cons.mpr ⟨ze_aload_n (k := 0) (by decide +kernel) rfl, ?_⟩
  refine List.forall_mem_cons.mpr ⟨ze_getL (by decide +kernel) fl_X11_17 rfl (by decide), ?_⟩
  refine List.forall_mem_cons.mpr ⟨ze_bipush (n := 6) (by decide +kernel) (by decide), ?_⟩
  refine List.forall_mem_cons.mpr ⟨ze_iald (by decide +kernel), ?_⟩
  refine List.forall_mem_cons.mpr ⟨ze_iret (by decide +kernel) rfl, ?_⟩
  exact fun _ h => absurd h List.not_mem_nil
theorem vX11_years {l : Launch} {G : GT} {d : Nat} {av : List Value} {Q : Po} {σ : Mm} (cs : List (Nat × List Nat)) (k : Nat) (h : vc l G d mX11_years TX11_years Q cs k TX11_years (lv_args 0 av) [] σ) (hlen : (lg_sl av).length ≤ mX11_years.2.2.1 := by exact Nat.le_of_ble_eq_true rfl) : MW l G d mX11_years av σ Q := mw_vc TX11_years_ok mc_X11_years rfl hlen cs k rfl h
theorem wX11_years {l : Launch} {G : GT} {d : Nat} {Q : Po} {pc : Nat} {lv : Lv} {st : List Value} {σ : Mm} (cs : List (Nat × List Nat)) (k : Nat) (h : vc l G d mX11_years TX11_years Q cs k (drp TX11_years pc) lv st σ) (hpc : hdp (drp TX11_years pc) = pc := by rfl) : Wp l G d mX11_years pc lv st σ Q := wp_vc TX11_years_ok cs k hpc h
def TX11_chooseByDraws : List In := [(0, 1, zt_aload 0), (1, 3, zt_ic 8), (3, 6, zt_callVF mX11_draw 1 19), (6, 44, zt_tsw 0 5 [44, 44, 44, 74, 85, 101] 138), (44, 45, zt_aload 0), (45, 48, zt_getL 19 4), (48, 49, zt_ic 0), (49, 50, zt_aload 0), (50, 52, zt_ic 100), (52, 55, zt_callVF mX11_draw 1 19), (55, 56, zt_aload 0), (56, 59, zt_getL 19 0), (59, 61, zt_ic 6), (61, 62, zt_iald), (62, 65, zt_icmp_ge 69), (65, 66, zt_ic 0), (66, 69, zt_goto 70), (69, 70, zt_ic 1), (70, 71, zt_iastoreF), (71, 74, zt_goto 183), (74, 75, zt_aload 0), (75, 78, zt_getL 19 4), (78, 79, zt_ic 0), (79, 81, zt_ic 7), (81, 82, zt_iastoreF), (82, 85, zt_goto 183), (85, 86, zt_aload 0), (86, 89, zt_getL 19 4), (89, 90, zt_ic 0), (90, 91, zt_ic 2), (91, 92, zt_aload 0), (92, 93, zt_ic 3), (93, 96, zt_callVF mX11_draw 1 19), (96, 97, zt_iadd), (97, 98, zt_iastoreF), (98, 101, zt_goto 183), (101, 102, zt_aload 0), (102, 105, zt_getL 19 4), (105, 106, zt_ic 0), (106, 107, zt_ic 5), (107, 108, zt_iastoreF), (108, 109, zt_aload 0), (109, 112, zt_getL 19 4), (112, 113, zt_ic 1), (113, 114, zt_aload 0), (114, 116, zt_ic 12), (116, 119, zt_callVF mX11_draw 1 19), (119, 120, zt_ic 1), (120, 121, zt_iadd), (121, 122, zt_iastoreF), (122, 123, zt_aload 0), (123, 126, zt_getL 19 4), (126, 127, zt_ic 2), (127, 128, zt_aload 0), (128, 131, zt_ic 1000), (131, 134, zt_callVF mX11_draw 1 19), (134, 135, zt_iastoreF), (135, 138, zt_goto 183), (138, 139, zt_aload 0), (139, 142, zt_getL 19 4), (142, 143, zt_ic 0), (143, 145, zt_ic 6), (145, 146, zt_iastoreF), (146, 147, zt_aload 0), (147, 150, zt_getL 19 4), (150, 151, zt_ic 1), (151, 152, zt_aload 0), (152, 154, zt_ic 12), (154, 157, zt_callVF mX11_draw 1 19), (157, 158, zt_iastoreF), (158, 159, zt_aload 0), (159, 162, zt_getL 19 4), (162, 163, zt_ic 2), (163, 164, zt_aload 0), (164, 166, zt_ic 12), (166, 169, zt_callVF mX11_draw 1 19), (169, 170, zt_iastoreF), (170, 171, zt_aload 0), (171, 174, zt_getL 19 4), (174, 175, zt_ic 3), (175, 176, zt_aload 0), (176, 179, zt_ic 200), (179, 182, zt_callVF mX11_draw 1 19), (182, 183, zt_iastoreF), (183, 184, zt_vret)]
theorem TX11_chooseByDraws_ok : ∀ i ∈ TX11_chooseByDraws, Ent mX11_chooseByDraws i := by
  refine List.forall_mem_cons.mpr ⟨ze_aload_n (k := 0) (by decide +kernel) rfl, ?_⟩
  refine List.forall_mem_cons.mpr ⟨ze_bipush (n := 8) (by decide +kernel) (by decide), ?_⟩
  refine List.forall_mem_cons.mpr ⟨ze_callVF (idx := 251) (by decide +kernel) ml_X11_251 mv_X11_draw rfl, ?_⟩
  refine List.forall_mem_cons.mpr ⟨ze_tsw (len := 38) (df0 := 132) (offs := #[38, 38, 38, 68, 79, 95]) (by decide +kernel) (by decide) (by decide +kernel) (by decide), ?_⟩
  refine List.forall_mem_cons.mpr ⟨ze_aload_n (k := 0) (by decide +kernel) rfl, ?_⟩
  refine List.forall_mem_cons.mpr ⟨ze_getL (by decide +kernel) fl_X11_26 rfl (by decide), ?_⟩
  refine List.forall_mem_cons.mpr ⟨ze_iconst (n := 0) (by decide +kernel) (by decide), ?_⟩
  refine List.forall_mem_cons.mpr ⟨ze_aload_n (k := 0) (by decide +kernel) rfl, ?_⟩
  refine List.forall_mem_cons.mpr ⟨ze_bipush (n := 100) (by decide +kernel) (by decide), ?_⟩
  refine List.forall_mem_cons.mpr ⟨ze_callVF (idx := 251) (by decide +kernel) ml_X11_251 mv_X11_draw rfl, ?_⟩
  refine List.forall_mem_cons.mpr ⟨ze_aload_n (k := 0) (by decide +kernel) rfl, ?_⟩
  refine List.forall_mem_cons.mpr ⟨ze_getL (by decide +kernel) fl_X11_9 rfl (by decide), ?_⟩
  refine List.forall_mem_cons.mpr ⟨ze_bipush (n := 6) (by decide +kernel) (by decide), ?_⟩
  refine List.forall_mem_cons.mpr ⟨ze_iald (by decide +kernel), ?_⟩
  refine List.forall_mem_cons.mpr ⟨ze_icmp_ge (off := 7) (by decide +kernel) (by decide), ?_⟩
  refine List.forall_mem_cons.mpr ⟨ze_iconst (n := 0) (by decide +kernel) (by decide), ?_⟩
  refine List.forall_mem_cons.mpr ⟨ze_goto (off := 4) (by decide +kernel) (by decide), ?_⟩
  refine List.forall_mem_cons.mpr ⟨ze_iconst (n := 1) (by decide +kernel) (by decide), ?_⟩
  refine List.forall_mem_cons.mpr ⟨ze_iastoreF (by decide +kernel), ?_⟩
  refine List.forall_mem_cons.mpr ⟨ze_goto (off := 112) (by decide +kernel) (by decide), ?_⟩
  refine List.forall_mem_cons.mpr ⟨ze_aload_n (k := 0) (by decide +kernel) rfl, ?_⟩
  refine List.forall_mem_cons.mpr ⟨ze_getL (by decide +kernel) fl_X11_26 rfl (by decide), ?_⟩
  refine List.forall_mem_cons.mpr ⟨ze_iconst (n := 0) (by decide +kernel) (by decide), ?_⟩
  refine List.forall_mem_cons.mpr ⟨ze_bipush (n := 7) (by decide +kernel) (by decide), ?_⟩
  refine List.forall_mem_cons.mpr ⟨ze_iastoreF (by decide +kernel), ?_⟩
  refine List.forall_mem_cons.mpr ⟨ze_goto (off := 101) (by decide +kernel) (by decide), ?_⟩
  refine List.forall_mem_cons.mpr ⟨ze_aload_n (k := 0) (by decide +kernel) rfl, ?_⟩
  refine List.forall_mem_cons.mpr ⟨ze_getL (by decide +kernel) fl_X11_26 rfl (by decide), ?_⟩
  refine List.forall_mem_cons.mpr ⟨ze_iconst (n := 0) (by decide +kernel) (by decide), ?_⟩
  refine List.forall_mem_cons.mpr ⟨ze_iconst (n := 2) (by decide +kernel) (by decide), ?_⟩
  refine List.forall_mem_cons.mpr ⟨ze_aload_n (k := 0) (by decide +kernel) rfl, ?_⟩
  refine List.forall_mem_cons.mpr ⟨ze_iconst (n := 3) (by decide +kernel) (by decide), ?_⟩
  refine List.forall_mem_cons.mpr ⟨ze_callVF (idx := 251) (by decide +kernel) ml_X11_251 mv_X11_draw rfl, ?_⟩
  refine List.forall_mem_cons.mpr ⟨ze_iadd (by decide +kernel), ?_⟩
  refine List.forall_mem_cons.mpr ⟨ze_iastoreF (by decide +kernel), ?_⟩
  refine List.forall_mem_cons.mpr ⟨ze_goto (off := 85) (by decide +kernel) (by decide), ?_⟩
  refine List.forall_mem_cons.mpr ⟨ze_aload_n (k := 0) (by decide +kernel) rfl, ?_⟩
  refine List.forall_mem_cons.mpr ⟨ze_getL (by decide +kernel) fl_X11_26 rfl (by decide), ?_⟩
  refine List.forall_mem_cons.mpr ⟨ze_iconst (n := 0) (by decide +kernel) (by decide), ?_⟩
  refine List.forall_mem_cons.mpr ⟨ze_iconst (n := 5) (by decide +kernel) (by decide), ?_⟩
  refine List.forall_mem_cons.mpr ⟨ze_iastoreF (by decide +kernel), ?_⟩
  refine List.forall_mem_cons.mpr ⟨ze_aload_n (k := 0) (by decide +kernel) rfl, ?_⟩
  refine List.forall_mem_cons.mpr ⟨ze_getL (by decide +kernel) fl_X11_26 rfl (by decide), ?_⟩
  refine List.forall_mem_cons.mpr ⟨ze_iconst (n := 1) (by decide +kernel) (by decide), ?_⟩
  refine List.forall_mem_cons.mpr ⟨ze_aload_n (k := 0) (by decide +kernel) rfl, ?_⟩
  refine List.forall_mem_cons.mpr ⟨ze_bipush (n := 12) (by decide +kernel) (by decide), ?_⟩
  refine List.forall_mem_cons.mpr ⟨ze_callVF (idx := 251) (by decide +kernel) ml_X11_251 mv_X11_draw rfl, ?_⟩
  refine List.forall_mem_cons.mpr ⟨ze_iconst (n := 1) (by decide +kernel) (by decide), ?_⟩
  refine List.forall_mem_cons.mpr ⟨ze_iadd (by decide +kernel), ?_⟩
  refine List.forall_mem_cons.mpr ⟨ze_iastoreF (by decide +kernel), ?_⟩
  refine List.forall_mem_cons.mpr ⟨ze_aload_n (k := 0) (by decide +kernel) rfl, ?_⟩
  refine List.forall_mem_cons.mpr ⟨ze_getL (by decide +kernel) fl_X11_26 rfl (by decide), ?_⟩
  refine List.forall_mem_cons.mpr ⟨ze_iconst (n := 2) (by decide +kernel) (by decide), ?_⟩
  refine List.forall_mem_cons.mpr ⟨ze_aload_n (k := 0) (by decide +kernel) rfl, ?_⟩
  refine List.forall_mem_cons.mpr ⟨ze_sipush (n := 1000) (by decide +kernel) (by decide), ?_⟩
  refine List.forall_mem_cons.mpr ⟨ze_callVF (idx := 251) (by decide +kernel) ml_X11_251 mv_X11_draw rfl, ?_⟩
  refine List.forall_mem_cons.mpr ⟨ze_iastoreF (by decide +kernel), ?_⟩
  refine List.forall_mem_cons.mpr ⟨ze_goto (off := 48) (by decide +kernel) (by decide), ?_⟩
  refine List.forall_mem_cons.mpr ⟨ze_aload_n (k := 0) (by decide +kernel) rfl, ?_⟩
  refine List.forall_mem_cons.mpr ⟨ze_getL (by decide +kernel) fl_X11_26 rfl (by decide), ?_⟩
  refine List.forall_mem_cons.mpr ⟨ze_iconst (n := 0) (by decide +kernel) (by decide), ?_⟩
  refine List.forall_mem_cons.mpr ⟨ze_bipush (n := 6) (by decide +kernel) (by decide), ?_⟩
  refine List.forall_mem_cons.mpr ⟨ze_iastoreF (by decide +kernel), ?_⟩
  refine List.forall_mem_cons.mpr ⟨ze_aload_n (k := 0) (by decide +kernel) rfl, ?_⟩
  refine List.forall_mem_cons.mpr ⟨ze_getL (by decide +kernel) fl_X11_26 rfl (by decide), ?_⟩
  refine List.forall_mem_cons.mpr ⟨ze_iconst (n := 1) (by decide +kernel) (by decide), ?_⟩
  refine List.forall_mem_cons.mpr ⟨ze_aload_n (k := 0) (by decide +kernel) rfl, ?_⟩
  refine List.forall_mem_cons.mpr ⟨ze_bipush (n := 12) (by decide +kernel) (by decide), ?_⟩
  refine List.forall_mem_cons.mpr ⟨ze_callVF (idx := 251) (by decide +kernel) ml_X11_251 mv_X11_draw rfl, ?_⟩
  refine List.forall_mem_cons.mpr ⟨ze_iastoreF (by decide +kernel), ?_⟩
  refine List.forall_mem_cons.mpr ⟨ze_aload_n (k := 0) (by decide +kernel) rfl, ?_⟩
  refine List.forall_mem_cons.mpr ⟨ze_getL (by decide +kernel) fl_X11_26 rfl (by decide), ?_⟩
  refine List.forall_mem_cons.mpr ⟨ze_iconst (n := 2) (by decide +kernel) (by decide), ?_⟩
  refine List.forall_mem_cons.mpr ⟨ze_aload_n (k := 0) (by decide +kernel) rfl, ?_⟩
  refine List.forall_mem_cons.mpr ⟨ze_bipush (n := 12) (by decide +kernel) (by decide), ?_⟩
  refine List.forall_mem_cons.mpr ⟨ze_callVF (idx := 251) (by decide +kernel) ml_X11_251 mv_X11_draw rfl, ?_⟩
  refine List.forall_mem_cons.mpr ⟨ze_iastoreF (by decide +kernel), ?_⟩
  refine List.forall_mem_cons.mpr ⟨ze_aload_n (k := 0) (by decide +kernel) rfl, ?_⟩
  refine List.forall_mem_cons.mpr ⟨ze_getL (by decide +kernel) fl_X11_26 rfl (by decide), ?_⟩
  refine List.forall_mem_cons.mpr ⟨ze_iconst (n := 3) (by decide +kernel) (by decide), ?_⟩
  refine List.forall_mem_cons.mpr ⟨ze_aload_n (k := 0) (by decide +kernel) rfl, ?_⟩
  refine List.forall_mem_cons.mpr ⟨ze_sipush (n := 200) (by decide +kernel) (by decide), ?_⟩
  refine List.forall_mem_cons.mpr ⟨ze_callVF (idx := 251) (by decide +kernel) ml_X11_251 mv_X11_draw rfl, ?_⟩
  refine List.forall_mem_cons.mpr ⟨ze_iastoreF (by decide +kernel), ?_⟩
  refine List.forall_mem_cons.mpr ⟨ze_vret (by decide +kernel) rfl, ?_⟩
  exact fun _ h => absurd h List.not_mem_nil
theorem vX11_chooseByDraws {l : Launch} {G : GT} {d : Nat} {av : List Value} {Q : Po} {σ : Mm} (cs : List (Nat × List Nat)) (k : Nat) (h : vc l G d mX11_chooseByDraws TX11_chooseByDraws Q cs k TX11_chooseByDraws (lv_args 0 av) [] σ) (hlen : (lg_sl av).length ≤ mX11_chooseByDraws.2.2.1 := by exact Nat.le_of_ble_eq_true rfl) : MW l G d mX11_chooseByDraws av σ Q := mw_vc TX11_chooseByDraws_ok mc_X11_chooseByDraws rfl hlen cs k rfl h
theorem wX11_chooseByDraws {l : Launch} {G : GT} {d : Nat} {Q : Po} {pc : Nat} {lv : Lv} {st : List Value} {σ : Mm} (cs : List (Nat × List Nat)) (k : Nat) (h : vc l G d mX11_chooseByDraws TX11_chooseByDraws Q cs k (drp TX11_chooseByDraws pc) lv st σ) (hpc : hdp (drp TX11_chooseByDraws pc) = pc := by rfl) : Wp l G d mX11_chooseByDraws pc lv st σ Q := wp_vc TX11_chooseByDraws_ok cs k hpc h
def TX11_draw : List In := [(0, 1, zt_aload 0), (1, 2, zt_aload 0), (2, 5, zt_getJ 19 13), (5, 8, zt_lc (6364136223846793005 : Int64)), (8, 9, zt_lmul), (9, 12, zt_lc (1442695040888963407 : Int64)), (12, 13, zt_ladd), (13, 16, zt_putJ 19 13), (16, 17, zt_iload 1), (17, 18, zt_ic 1), (18, 21, zt_icmp_ge 25), (21, 22, zt_ic 0), (22, 25, zt_goto 36), (25, 26, zt_aload 0), (26, 29, zt_getJ 19 13), (29, 31, zt_ic 33), (31, 32, zt_lushr), (32, 33, zt_iload 1), (33, 34, zt_i2l), (34, 35, zt_lrem), (35, 36, zt_l2i), (36, 37, zt_iret)]
theorem TX11_draw_ok : ∀ i ∈ TX11_draw, Ent mX11_draw i := by
  refine List.forall_mem_cons.mpr ⟨ze_aload_n (k := 0) (by decide +kernel) rfl, ?_⟩
  refine List.forall_mem_cons.mpr ⟨ze_aload_n (k := 0) (by decide +kernel) rfl, ?_⟩
  refine List.forall_mem_cons.mpr ⟨ze_getJ (by decide +kernel) fl_X11_244 rfl, ?_⟩
  refine List.forall_mem_cons.mpr ⟨ze_ldc2 (i := 254) (by decide +kernel) kc_X11_254, ?_⟩
  refine List.forall_mem_cons.mpr ⟨ze_lmul (by decide +kernel), ?_⟩
  refine List.forall_mem_cons.mpr ⟨ze_ldc2 (i := 256) (by decide +kernel) kc_X11_256, ?_⟩
  refine List.forall_mem_cons.mpr ⟨ze_ladd (by decide +kernel), ?_⟩
  refine List.forall_mem_cons.mpr ⟨ze_putJ (by decide +kernel) fl_X11_244 ⟨_, _, _, rfl, rfl, by decide +kernel⟩ rfl, ?_⟩
  refine List.forall_mem_cons.mpr ⟨ze_iload_n (k := 1) (by decide +kernel) rfl, ?_⟩
  refine List.forall_mem_cons.mpr ⟨ze_iconst (n := 1) (by decide +kernel) (by decide), ?_⟩
  refine List.forall_mem_cons.mpr ⟨ze_icmp_ge (off := 7) (by decide +kernel) (by decide), ?_⟩
  refine List.forall_mem_cons.mpr ⟨ze_iconst (n := 0) (by decide +kernel) (by decide), ?_⟩
  refine List.forall_mem_cons.mpr ⟨ze_goto (off := 14) (by decide +kernel) (by decide), ?_⟩
  refine List.forall_mem_cons.mpr ⟨ze_aload_n (k := 0) (by decide +kernel) rfl, ?_⟩
  refine List.forall_mem_cons.mpr ⟨ze_getJ (by decide +kernel) fl_X11_244 rfl, ?_⟩
  refine List.forall_mem_cons.mpr ⟨ze_bipush (n := 33) (by decide +kernel) (by decide), ?_⟩
  refine List.forall_mem_cons.mpr ⟨ze_lushr (by decide +kernel), ?_⟩
  refine List.forall_mem_cons.mpr ⟨ze_iload_n (k := 1) (by decide +kernel) rfl, ?_⟩
  refine List.forall_mem_cons.mpr ⟨ze_i2l (by decide +kernel), ?_⟩
  refine List.forall_mem_cons.mpr ⟨ze_lrem (by decide +kernel), ?_⟩
  refine List.forall_mem_cons.mpr ⟨ze_l2i (by decide +kernel), ?_⟩
  refine List.forall_mem_cons.mpr ⟨ze_iret (by decide +kernel) rfl, ?_⟩
  exact fun _ h => absurd h List.not_mem_nil
theorem vX11_draw {l : Launch} {G : GT} {d : Nat} {av : List Value} {Q : Po} {σ : Mm} (cs : List (Nat × List Nat)) (k : Nat) (h : vc l G d mX11_draw TX11_draw Q cs k TX11_draw (lv_args 0 av) [] σ) (hlen : (lg_sl av).length ≤ mX11_draw.2.2.1 := by exact Nat.le_of_ble_eq_true rfl) : MW l G d mX11_draw av σ Q := mw_vc TX11_draw_ok mc_X11_draw rfl hlen cs k rfl h
theorem wX11_draw {l : Launch} {G : GT} {d : Nat} {Q : Po} {pc : Nat} {lv : Lv} {st : List Value} {σ : Mm} (cs : List (Nat × List Nat)) (k : Nat) (h : vc l G d mX11_draw TX11_draw Q cs k (drp TX11_draw pc) lv st σ) (hpc : hdp (drp TX11_draw pc) = pc := by rfl) : Wp l G d mX11_draw pc lv st σ Q := wp_vc TX11_draw_ok cs k hpc h
def TX11_status : List In := [(0, 1, zt_iload 1), (1, 4, zt_if_lt 13), (4, 5, zt_iload 1), (5, 6, zt_aload 0), (6, 9, zt_getL 19 3), (9, 10, zt_alen), (10, 13, zt_icmp_lt 17), (13, 14, zt_ic (-1)), (14, 17, zt_goto 23), (17, 18, zt_aload 0), (18, 21, zt_getL 19 3), (21, 22, zt_iload 1), (22, 23, zt_iald), (23, 24, zt_iret)]
theorem TX11_status_ok : ∀ i ∈ TX11_status, Ent mX11_status i := by
  refine List.forall_mem_cons.mpr ⟨ze_iload_n (k := 1) (by decide +kernel) rfl, ?_⟩
  refine List.forall_mem_cons.mpr ⟨ze_if_lt (off := 12) (by decide +kernel) (by decide), ?_⟩
  refine List.forall_mem_cons.mpr ⟨ze_iload_n (k := 1) (by decide +kernel) rfl, ?_⟩
  refine List.forall_mem_cons.mpr ⟨ze_aload_n (k := 0) (by decide +kernel) rfl, ?_⟩
  refine List.forall_mem_cons.mpr ⟨ze_getL (by decide +kernel) fl_X11_23 rfl (by decide), ?_⟩
  refine List.forall_mem_cons.mpr ⟨ze_alen (by decide +kernel), ?_⟩
  refine List.forall_mem_cons.mpr ⟨ze_icmp_lt (off := 7) (by decide +kernel) (by decide), ?_⟩
  refine List.forall_mem_cons.mpr ⟨ze_iconst (n := -1) (by decide +kernel) (by decide), ?_⟩
  refine List.forall_mem_cons.mpr ⟨ze_goto (off := 9) (by decide +kernel) (by decide), ?_⟩
  refine List.forall_mem_cons.mpr ⟨ze_aload_n (k := 0) (by decide +kernel) rfl, ?_⟩
  refine List.forall_mem_cons.mpr ⟨ze_getL (by decide +kernel) fl_X11_23 rfl (by decide), ?_⟩
  refine List.forall_mem_cons.mpr ⟨ze_iload_n (k := 1) (by decide +kernel) rfl, ?_⟩
  refine List.forall_mem_cons.mpr ⟨ze_iald (by decide +kernel), ?_⟩
  refine List.forall_mem_cons.mpr ⟨ze_iret (by decide +kernel) rfl, ?_⟩
  exact fun _ h => absurd h List.not_mem_nil
theorem vX11_status {l : Launch} {G : GT} {d : Nat} {av : List Value} {Q : Po} {σ : Mm} (cs : List (Nat × List Nat)) (k : Nat) (h : vc l G d mX11_status TX11_status Q cs k TX11_status (lv_args 0 av) [] σ) (hlen : (lg_sl av).length ≤ mX11_status.2.2.1 := by exact Nat.le_of_ble_eq_true rfl) : MW l G d mX11_status av σ Q := mw_vc TX11_status_ok mc_X11_status rfl hlen cs k rfl h
theorem wX11_status {l : Launch} {G : GT} {d : Nat} {Q : Po} {pc : Nat} {lv : Lv} {st : List Value} {σ : Mm} (cs : List (Nat × List Nat)) (k : Nat) (h : vc l G d mX11_status TX11_status Q cs k (drp TX11_status pc) lv st σ) (hpc : hdp (drp TX11_status pc) = pc := by rfl) : Wp l G d mX11_status pc lv st σ Q := wp_vc TX11_status_ok cs k hpc h
def TX11_undo : List In := [(0, 1, zt_aload 0), (1, 4, zt_getL 19 10), (4, 5, zt_aload 0), (5, 8, zt_getL 19 1), (8, 11, zt_callVF mX2_takeBack 1 11), (11, 14, zt_if_eq 24), (14, 15, zt_aload 0), (15, 18, zt_getL 19 10), (18, 21, zt_getI 11 0), (21, 24, zt_goto 25), (24, 25, zt_ic (-1)), (25, 26, zt_iret)]
theorem TX11_undo_ok : ∀ i ∈ TX11_undo, Ent mX11_undo i := by
  refine List.forall_mem_cons.mpr ⟨ze_aload_n (k := 0) (by decide +kernel) rfl, ?_⟩
  refine List.forall_mem_cons.mpr ⟨ze_getL (by decide +kernel) fl_X11_73 rfl (by decide), ?_⟩
  refine List.forall_mem_cons.mpr ⟨ze_aload_n (k := 0) (by decide +kernel) rfl, ?_⟩
  refine List.forall_mem_cons.mpr ⟨ze_getL (by decide +kernel) fl_X11_17 rfl (by decide), ?_⟩
  refine List.forall_mem_cons.mpr ⟨ze_callVF (idx := 258) (by decide +kernel) ml_X11_258 mv_X2_takeBack rfl, ?_⟩
  refine List.forall_mem_cons.mpr ⟨ze_if_eq (off := 13) (by decide +kernel) (by decide), ?_⟩
  refine List.forall_mem_cons.mpr ⟨ze_aload_n (k := 0) (by decide +kernel) rfl, ?_⟩
  refine List.forall_mem_cons.mpr ⟨ze_getL (by decide +kernel) fl_X11_73 rfl (by decide), ?_⟩
  refine List.forall_mem_cons.mpr ⟨ze_getI (by decide +kernel) fl_X11_262 rfl, ?_⟩
  refine List.forall_mem_cons.mpr ⟨ze_goto (off := 4) (by decide +kernel) (by decide), ?_⟩
  refine List.forall_mem_cons.mpr ⟨ze_iconst (n := -1) (by decide +kernel) (by decide), ?_⟩
  refine List.forall_mem_cons.mpr ⟨ze_iret (by decide +kernel) rfl, ?_⟩
  exact fun _ h => absurd h List.not_mem_nil
theorem vX11_undo {l : Launch} {G : GT} {d : Nat} {av : List Value} {Q : Po} {σ : Mm} (cs : List (Nat × List Nat)) (k : Nat) (h : vc l G d mX11_undo TX11_undo Q cs k TX11_undo (lv_args 0 av) [] σ) (hlen : (lg_sl av).length ≤ mX11_undo.2.2.1 := by exact Nat.le_of_ble_eq_true rfl) : MW l G d mX11_undo av σ Q := mw_vc TX11_undo_ok mc_X11_undo rfl hlen cs k rfl h
theorem wX11_undo {l : Launch} {G : GT} {d : Nat} {Q : Po} {pc : Nat} {lv : Lv} {st : List Value} {σ : Mm} (cs : List (Nat × List Nat)) (k : Nat) (h : vc l G d mX11_undo TX11_undo Q cs k (drp TX11_undo pc) lv st σ) (hpc : hdp (drp TX11_undo pc) = pc := by rfl) : Wp l G d mX11_undo pc lv st σ Q := wp_vc TX11_undo_ok cs k hpc h
def TX11_log : List In := [(0, 1, zt_iload 1), (1, 4, zt_if_lt 24), (4, 5, zt_iload 1), (5, 6, zt_aload 0), (6, 9, zt_getL 19 10), (9, 12, zt_callVF mX2_shown 0 11), (12, 15, zt_icmp_ge 24), (15, 16, zt_iload 2), (16, 19, zt_if_lt 24), (19, 20, zt_iload 2), (20, 21, zt_ic 2), (21, 24, zt_icmp_le 30), (24, 27, zt_ic (-1000000 : Int32)), (27, 30, zt_goto 39), (30, 31, zt_aload 0), (31, 34, zt_getL 19 10), (34, 35, zt_iload 1), (35, 36, zt_iload 2), (36, 39, zt_callVF mX2_entry 2 11), (39, 40, zt_iret)]
theorem TX11_log_ok : ∀ i ∈ TX11_log, Ent mX11_log i := by
  refine List.forall_mem_cons.mpr ⟨ze_iload_n (k := 1) (by decide +kernel) rfl, ?_⟩
  refine List.forall_mem_cons.mpr ⟨ze_if_lt (off := 23) (by decide +kernel) (by decide), ?_⟩
  refine List.forall_mem_cons.mpr ⟨ze_iload_n (k := 1) (by decide +kernel) rfl, ?_⟩
  refine List.forall_mem_cons.mpr ⟨ze_aload_n (k := 0) (by decide +kernel) rfl, ?_⟩
  refine List.forall_mem_cons.mpr ⟨ze_getL (by decide +kernel) fl_X11_73 rfl (by decide), ?_⟩
  refine List.forall_mem_cons.mpr ⟨ze_callVF (idx := 265) (by decide +kernel) ml_X11_265 mv_X2_shown rfl, ?_⟩
  refine List.forall_mem_cons.mpr ⟨ze_icmp_ge (off := 12) (by decide +kernel) (by decide), ?_⟩
  refine List.forall_mem_cons.mpr ⟨ze_iload_n (k := 2) (by decide +kernel) rfl, ?_⟩
  refine List.forall_mem_cons.mpr ⟨ze_if_lt (off := 8) (by decide +kernel) (by decide), ?_⟩
  refine List.forall_mem_cons.mpr ⟨ze_iload_n (k := 2) (by decide +kernel) rfl, ?_⟩
  refine List.forall_mem_cons.mpr ⟨ze_iconst (n := 2) (by decide +kernel) (by decide), ?_⟩
  refine List.forall_mem_cons.mpr ⟨ze_icmp_le (off := 9) (by decide +kernel) (by decide), ?_⟩
  refine List.forall_mem_cons.mpr ⟨ze_ldcw (i := 268) (by decide +kernel) kc_X11_268, ?_⟩
  refine List.forall_mem_cons.mpr ⟨ze_goto (off := 12) (by decide +kernel) (by decide), ?_⟩
  refine List.forall_mem_cons.mpr ⟨ze_aload_n (k := 0) (by decide +kernel) rfl, ?_⟩
  refine List.forall_mem_cons.mpr ⟨ze_getL (by decide +kernel) fl_X11_73 rfl (by decide), ?_⟩
  refine List.forall_mem_cons.mpr ⟨ze_iload_n (k := 1) (by decide +kernel) rfl, ?_⟩
  refine List.forall_mem_cons.mpr ⟨ze_iload_n (k := 2) (by decide +kernel) rfl, ?_⟩
  refine List.forall_mem_cons.mpr ⟨ze_callVF (idx := 269) (by decide +kernel) ml_X11_269 mv_X2_entry rfl, ?_⟩
  refine List.forall_mem_cons.mpr ⟨ze_iret (by decide +kernel) rfl, ?_⟩
  exact fun _ h => absurd h List.not_mem_nil
theorem vX11_log {l : Launch} {G : GT} {d : Nat} {av : List Value} {Q : Po} {σ : Mm} (cs : List (Nat × List Nat)) (k : Nat) (h : vc l G d mX11_log TX11_log Q cs k TX11_log (lv_args 0 av) [] σ) (hlen : (lg_sl av).length ≤ mX11_log.2.2.1 := by exact Nat.le_of_ble_eq_true rfl) : MW l G d mX11_log av σ Q := mw_vc TX11_log_ok mc_X11_log rfl hlen cs k rfl h
theorem wX11_log {l : Launch} {G : GT} {d : Nat} {Q : Po} {pc : Nat} {lv : Lv} {st : List Value} {σ : Mm} (cs : List (Nat × List Nat)) (k : Nat) (h : vc l G d mX11_log TX11_log Q cs k (drp TX11_log pc) lv st σ) (hpc : hdp (drp TX11_log pc) = pc := by rfl) : Wp l G d mX11_log pc lv st σ Q := wp_vc TX11_log_ok cs k hpc h
def TX11_way : List In := [(0, 1, zt_aload 0), (1, 4, zt_callVF mX11_closed 0 19), (4, 7, zt_if_ne 20), (7, 8, zt_iload 1), (8, 11, zt_if_lt 20), (11, 12, zt_iload 2), (12, 15, zt_if_lt 20), (15, 16, zt_iload 2), (16, 17, zt_ic 2), (17, 20, zt_icmp_le 22), (20, 21, zt_ic (-1)), (21, 22, zt_iret), (22, 23, zt_aload 0), (23, 26, zt_getL 19 11), (26, 27, zt_aload 0), (27, 30, zt_getL 19 1), (30, 31, zt_iload 1), (31, 32, zt_ic 0), (32, 35, zt_callVF mX10_go 3 18), (35, 36, zt_iload 2), (36, 39, zt_if_ne 47), (39, 40, zt_aload 0), (40, 43, zt_getL 19 11), (43, 46, zt_getI 18 0), (46, 47, zt_iret), (47, 48, zt_iload 2), (48, 49, zt_ic 1), (49, 52, zt_icmp_ne 62), (52, 53, zt_aload 0), (53, 56, zt_getL 19 11), (56, 59, zt_getI 18 1), (59, 62, zt_goto 69), (62, 63, zt_aload 0), (63, 66, zt_getL 19 11), (66, 69, zt_getI 18 2), (69, 70, zt_iret)]
theorem TX11_way_ok : ∀ i ∈ TX11_way, Ent mX11_way i := by
  refine List.forall_mem_cons.mpr ⟨ze_aload_n (k := 0) (by decide +kernel) rfl, ?_⟩
  refine List.forall_mem_cons.mpr ⟨ze_callVF (idx := 272) (by decide +kernel) ml_X11_272 mv_X11_closed rfl, ?_⟩
  refine List.forall_mem_cons.mpr ⟨ze_if_ne (off := 16) (by decide +kernel) (by decide), ?_⟩
  refine List.forall_mem_cons.mpr ⟨ze_iload_n (k := 1) (by decide +kernel) rfl, ?_⟩
  refine List.forall_mem_cons.mpr ⟨ze_if_lt (off := 12) (by decide +kernel) (by decide), ?_⟩
  refine List.forall_mem_cons.mpr ⟨ze_iload_n (k := 2) (by decide +kernel) rfl, ?_⟩
  refine List.forall_mem_cons.mpr ⟨ze_if_lt (off := 8) (by decide +kernel) (by decide), ?_⟩
  refine List.forall_mem_cons.mpr ⟨ze_iload_n (k := 2) (by decide +kernel) rfl, ?_⟩
  refine List.forall_mem_cons.mpr ⟨ze_iconst (n := 2) (by decide +kernel) (by decide), ?_⟩
  refine List.forall_mem_cons.mpr ⟨ze_icmp_le (off := 5) (by decide +kernel) (by decide), ?_⟩
  refine List.forall_mem_cons.mpr ⟨ze_iconst (n := -1) (by decide +kernel) (by decide), ?_⟩
  refine List.forall_mem_cons.mpr ⟨ze_iret (by decide +kernel) rfl, ?_⟩
  refine List.forall_mem_cons.mpr ⟨ze_aload_n (k := 0) (by decide +kernel) rfl, ?_⟩
  refine List.forall_mem_cons.mpr ⟨ze_getL (by decide +kernel) fl_X11_82 rfl (by decide), ?_⟩
  refine List.forall_mem_cons.mpr ⟨ze_aload_n (k := 0) (by decide +kernel) rfl, ?_⟩
  refine List.forall_mem_cons.mpr ⟨ze_getL (by decide +kernel) fl_X11_17 rfl (by decide), ?_⟩
  refine List.forall_mem_cons.mpr ⟨ze_iload_n (k := 1) (by decide +kernel) rfl, ?_⟩
  refine List.forall_mem_cons.mpr ⟨ze_iconst (n := 0) (by decide +kernel) (by decide), ?_⟩
  refine List.forall_mem_cons.mpr ⟨ze_callVF (idx := 275) (by decide +kernel) ml_X11_275 mv_X10_go rfl, ?_⟩
  refine List.forall_mem_cons.mpr ⟨ze_iload_n (k := 2) (by decide +kernel) rfl, ?_⟩
  refine List.forall_mem_cons.mpr ⟨ze_if_ne (off := 11) (by decide +kernel) (by decide), ?_⟩
  refine List.forall_mem_cons.mpr ⟨ze_aload_n (k := 0) (by decide +kernel) rfl, ?_⟩
  refine List.forall_mem_cons.mpr ⟨ze_getL (by decide +kernel) fl_X11_82 rfl (by decide), ?_⟩
  refine List.forall_mem_cons.mpr ⟨ze_getI (by decide +kernel) fl_X11_279 rfl, ?_⟩
  refine List.forall_mem_cons.mpr ⟨ze_iret (by decide +kernel) rfl, ?_⟩
  refine List.forall_mem_cons.mpr ⟨ze_iload_n (k := 2) (by decide +kernel) rfl, ?_⟩
  refine List.forall_mem_cons.mpr ⟨ze_iconst (n := 1) (by decide +kernel) (by decide), ?_⟩
  refine List.forall_mem_cons.mpr ⟨ze_icmp_ne (off := 13) (by decide +kernel) (by decide), ?_⟩
  refine List.forall_mem_cons.mpr ⟨ze_aload_n (k := 0) (by decide +kernel) rfl, ?_⟩
  refine List.forall_mem_cons.mpr ⟨ze_getL (by decide +kernel) fl_X11_82 rfl (by decide), ?_⟩
  refine List.forall_mem_cons.mpr ⟨ze_getI (by decide +kernel) fl_X11_282 rfl, ?_⟩
  refine List.forall_mem_cons.mpr ⟨ze_goto (off := 10) (by decide +kernel) (by decide), ?_⟩
  refine List.forall_mem_cons.mpr ⟨ze_aload_n (k := 0) (by decide +kernel) rfl, ?_⟩
  refine List.forall_mem_cons.mpr ⟨ze_getL (by decide +kernel) fl_X11_82 rfl (by decide), ?_⟩
  refine List.forall_mem_cons.mpr ⟨ze_getI (by decide +kernel) fl_X11_285 rfl, ?_⟩
  refine List.forall_mem_cons.mpr ⟨ze_iret (by decide +kernel) rfl, ?_⟩
  exact fun _ h => absurd h List.not_mem_nil
theorem vX11_way {l : Launch} {G : GT} {d : Nat} {av : List Value} {Q : Po} {σ : Mm} (cs : List (Nat × List Nat)) (k : Nat) (h : vc l G d mX11_way TX11_way Q cs k TX11_way (lv_args 0 av) [] σ) (hlen : (lg_sl av).length ≤ mX11_way.2.2.1 := by exact Nat.le_of_ble_eq_true rfl) : MW l G d mX11_way av σ Q := mw_vc TX11_way_ok mc_X11_way rfl hlen cs k rfl h
theorem wX11_way {l : Launch} {G : GT} {d : Nat} {Q : Po} {pc : Nat} {lv : Lv} {st : List Value} {σ : Mm} (cs : List (Nat × List Nat)) (k : Nat) (h : vc l G d mX11_way TX11_way Q cs k (drp TX11_way pc) lv st σ) (hpc : hdp (drp TX11_way pc) = pc := by rfl) : Wp l G d mX11_way pc lv st σ Q := wp_vc TX11_way_ok cs k hpc h
def TX11_mass : List In := [(0, 1, zt_aload 0), (1, 4, zt_callVF mX11_closed 0 19), (4, 7, zt_if_ne 26), (7, 8, zt_aload 0), (8, 9, zt_iload 1), (9, 10, zt_iload 2), (10, 13, zt_callVF mX11_isNode 2 19), (13, 16, zt_if_eq 26), (16, 17, zt_iload 1), (17, 18, zt_aload 0), (18, 21, zt_getL 19 1), (21, 22, zt_ic 0), (22, 23, zt_iald), (23, 26, zt_icmp_ge 28), (26, 27, zt_ic (-1)), (27, 28, zt_iret), (28, 29, zt_aload 0), (29, 32, zt_getL 19 12), (32, 33, zt_aload 0), (33, 36, zt_getL 19 1), (36, 37, zt_aload 0), (37, 40, zt_getL 19 8), (40, 41, zt_aload 0), (41, 44, zt_getL 19 1), (44, 45, zt_ic 0), (45, 46, zt_ic 0), (46, 49, zt_callVF mX8_reckon 3 16), (49, 52, zt_callVF mX1_pour 2 10), (52, 53, zt_aload 0), (53, 56, zt_getL 19 12), (56, 59, zt_getL 10 0), (59, 60, zt_iload 1), (60, 61, zt_iload 2), (61, 64, zt_callSF mX8_nodeOf 2), (64, 65, zt_iald), (65, 66, zt_iret)]
theorem TX11_mass_ok : ∀ i ∈ TX11_mass, Ent mX11_mass i := by
  refine List.forall_mem_cons.mpr ⟨ze_aload_n (k := 0) (by decide +kernel) rfl, ?_⟩
  refine List.forall_mem_cons.mpr ⟨ze_callVF (idx := 272) (by decide +kernel) ml_X11_272 mv_X11_closed rfl, ?_⟩
  refine List.forall_mem_cons.mpr ⟨ze_if_ne (off := 22) (by decide +kernel) (by decide), ?_⟩
  refine List.forall_mem_cons.mpr ⟨ze_aload_n (k := 0) (by decide +kernel) rfl, ?_⟩
  refine List.forall_mem_cons.mpr ⟨ze_iload_n (k := 1) (by decide +kernel) rfl, ?_⟩
  refine List.forall_mem_cons.mpr ⟨ze_iload_n (k := 2) (by decide +kernel) rfl, ?_⟩
  refine List.forall_mem_cons.mpr ⟨ze_callVF (idx := 165) (by decide +kernel) ml_X11_165 mv_X11_isNode rfl, ?_⟩
  refine List.forall_mem_cons.mpr ⟨ze_if_eq (off := 13) (by decide +kernel) (by decide), ?_⟩
  refine List.forall_mem_cons.mpr ⟨ze_iload_n (k := 1) (by decide +kernel) rfl, ?_⟩
  refine List.forall_mem_cons.mpr ⟨ze_aload_n (k := 0) (by decide +kernel) rfl, ?_⟩
  refine List.forall_mem_cons.mpr ⟨ze_getL (by decide +kernel) fl_X11_17 rfl (by decide), ?_⟩
  refine List.forall_mem_cons.mpr ⟨ze_iconst (n := 0) (by decide +kernel) (by decide), ?_⟩
  refine List.forall_mem_cons.mpr ⟨ze_iald (by decide +kernel), ?_⟩
  refine List.forall_mem_cons.mpr ⟨ze_icmp_ge (off := 5) (by decide +kernel) (by decide), ?_⟩
  refine List.forall_mem_cons.mpr ⟨ze_iconst (n := -1) (by decide +kernel) (by decide), ?_⟩
  refine List.forall_mem_cons.mpr ⟨ze_iret (by decide +kernel) rfl, ?_⟩
  refine List.forall_mem_cons.mpr ⟨ze_aload_n (k := 0) (by decide +kernel) rfl, ?_⟩
  refine List.forall_mem_cons.mpr ⟨ze_getL (by decide +kernel) fl_X11_89 rfl (by decide), ?_⟩
  refine List.forall_mem_cons.mpr ⟨ze_aload_n (k := 0) (by decide +kernel) rfl, ?_⟩
  refine List.forall_mem_cons.mpr ⟨ze_getL (by decide +kernel) fl_X11_17 rfl (by decide), ?_⟩
  refine List.forall_mem_cons.mpr ⟨ze_aload_n (k := 0) (by decide +kernel) rfl, ?_⟩
  refine List.forall_mem_cons.mpr ⟨ze_getL (by decide +kernel) fl_X11_57 rfl (by decide), ?_⟩
  refine List.forall_mem_cons.mpr ⟨ze_aload_n (k := 0) (by decide +kernel) rfl, ?_⟩
  refine List.forall_mem_cons.mpr ⟨ze_getL (by decide +kernel) fl_X11_17 rfl (by decide), ?_⟩
  refine List.forall_mem_cons.mpr ⟨ze_iconst (n := 0) (by decide +kernel) (by decide), ?_⟩
  refine List.forall_mem_cons.mpr ⟨ze_iconst (n := 0) (by decide +kernel) (by decide), ?_⟩
  refine List.forall_mem_cons.mpr ⟨ze_callVF (idx := 204) (by decide +kernel) ml_X11_204 mv_X8_reckon rfl, ?_⟩
  refine List.forall_mem_cons.mpr ⟨ze_callVF (idx := 288) (by decide +kernel) ml_X11_288 mv_X1_pour rfl, ?_⟩
  refine List.forall_mem_cons.mpr ⟨ze_aload_n (k := 0) (by decide +kernel) rfl, ?_⟩
  refine List.forall_mem_cons.mpr ⟨ze_getL (by decide +kernel) fl_X11_89 rfl (by decide), ?_⟩
  refine List.forall_mem_cons.mpr ⟨ze_getL (by decide +kernel) fl_X11_292 rfl (by decide), ?_⟩
  refine List.forall_mem_cons.mpr ⟨ze_iload_n (k := 1) (by decide +kernel) rfl, ?_⟩
  refine List.forall_mem_cons.mpr ⟨ze_iload_n (k := 2) (by decide +kernel) rfl, ?_⟩
  refine List.forall_mem_cons.mpr ⟨ze_callSF (idx := 145) (by decide +kernel) ml_X11_145 ms_X8_nodeOf, ?_⟩
  refine List.forall_mem_cons.mpr ⟨ze_iald (by decide +kernel), ?_⟩
  refine List.forall_mem_cons.mpr ⟨ze_iret (by decide +kernel) rfl, ?_⟩
  exact fun _ h => absurd h List.not_mem_nil
theorem vX11_mass {l : Launch} {G : GT} {d : Nat} {av : List Value} {Q : Po} {σ : Mm} (cs : List (Nat × List Nat)) (k : Nat) (h : vc l G d mX11_mass TX11_mass Q cs k TX11_mass (lv_args 0 av) [] σ) (hlen : (lg_sl av).length ≤ mX11_mass.2.2.1 := by exact Nat.le_of_ble_eq_true rfl) : MW l G d mX11_mass av σ Q := mw_vc TX11_mass_ok mc_X11_mass rfl hlen cs k rfl h
theorem wX11_mass {l : Launch} {G : GT} {d : Nat} {Q : Po} {pc : Nat} {lv : Lv} {st : List Value} {σ : Mm} (cs : List (Nat × List Nat)) (k : Nat) (h : vc l G d mX11_mass TX11_mass Q cs k (drp TX11_mass pc) lv st σ) (hpc : hdp (drp TX11_mass pc) = pc := by rfl) : Wp l G d mX11_mass pc lv st σ Q := wp_vc TX11_mass_ok cs k hpc h
def TX11_masses : List In := [(0, 1, zt_aload 0), (1, 4, zt_callVF mX11_closed 0 19), (4, 7, zt_if_ne 16), (7, 8, zt_iload 1), (8, 11, zt_if_lt 16), (11, 12, zt_iload 1), (12, 13, zt_ic 2), (13, 16, zt_icmp_le 18), (16, 17, zt_ic (-1)), (17, 18, zt_iret), (18, 19, zt_aload 0), (19, 22, zt_getL 19 8), (22, 23, zt_aload 0), (23, 26, zt_getL 19 1), (26, 27, zt_ic 0), (27, 28, zt_ic 0), (28, 31, zt_callVF mX8_reckon 3 16), (31, 32, zt_astoreF 2), (32, 33, zt_aload 0), (33, 36, zt_getL 19 12), (36, 37, zt_aload 0), (37, 40, zt_getL 19 1), (40, 41, zt_aload 2), (41, 44, zt_callVF mX1_pour 2 10), (44, 45, zt_iload 1), (45, 46, zt_ic 2), (46, 49, zt_icmp_ne 57), (49, 50, zt_aload 0), (50, 53, zt_getL 19 12), (53, 56, zt_callVF mX1_atTheEnd 0 10), (56, 57, zt_iret), (57, 58, zt_ic 0), (58, 59, zt_istoreF 3), (59, 60, zt_aload 0), (60, 63, zt_getL 19 1), (63, 64, zt_ic 0), (64, 65, zt_iald), (65, 67, zt_istoreF 4), (67, 69, zt_iload 4), (69, 70, zt_aload 0), (70, 73, zt_getL 19 0), (73, 74, zt_ic 1), (74, 75, zt_iald), (75, 78, zt_icmp_ge 100), (78, 79, zt_iload 3), (79, 80, zt_aload 0), (80, 83, zt_getL 19 12), (83, 84, zt_aload 2), (84, 86, zt_iload 4), (86, 87, zt_iload 1), (87, 88, zt_ic 1), (88, 89, zt_iadd), (89, 92, zt_callVF mX1_stopped 3 10), (92, 93, zt_iadd), (93, 94, zt_istoreF 3), (94, 97, zt_iincF 4 1), (97, 100, zt_goto 67), (100, 101, zt_iload 3), (101, 102, zt_iret)]
theorem TX11_masses_ok : ∀ i ∈ TX11_masses, Ent mX11_masses i := by
  refine List.forall_mem_cons.mpr ⟨ze_aload_n (k := 0) (by decide +kernel) rfl, ?_⟩
  refine List.forall_mem_cons.mpr ⟨ze_callVF (idx := 272) (by decide +kernel) ml_X11_272 mv_X11_closed rfl, ?_⟩
  refine List.forall_mem_cons.mpr ⟨ze_if_ne (off := 12) (by decide +kernel) (by decide), ?_⟩
  refine List.forall_mem_cons.mpr ⟨ze_iload_n (k := 1) (by decide +kernel) rfl, ?_⟩
  refine List.forall_mem_cons.mpr ⟨ze_if_lt (off := 8) (by decide +kernel) (by decide), ?_⟩
  refine List.forall_mem_cons.mpr ⟨ze_iload_n (k := 1) (by decide +kernel) rfl, ?_⟩
  refine List.forall_mem_cons.mpr ⟨ze_iconst (n := 2) (by decide +kernel) (by decide), ?_⟩
  refine List.forall_mem_cons.mpr ⟨ze_icmp_le (off := 5) (by decide +kernel) (by decide), ?_⟩
  refine List.forall_mem_cons.mpr ⟨ze_iconst (n := -1) (by decide +kernel) (by decide), ?_⟩
  refine List.forall_mem_cons.mpr ⟨ze_iret (by decide +kernel) rfl, ?_⟩
  refine List.forall_mem_cons.mpr ⟨ze_aload_n (k := 0) (by decide +kernel) rfl, ?_⟩
  refine List.forall_mem_cons.mpr ⟨ze_getL (by decide +kernel) fl_X11_57 rfl (by decide), ?_⟩
  refine List.forall_mem_cons.mpr ⟨ze_aload_n (k := 0) (by decide +kernel) rfl, ?_⟩
  refine List.forall_mem_cons.mpr ⟨ze_getL (by decide +kernel) fl_X11_17 rfl (by decide), ?_⟩
  refine List.forall_mem_cons.mpr ⟨ze_iconst (n := 0) (by decide +kernel) (by decide), ?_⟩
  refine List.forall_mem_cons.mpr ⟨ze_iconst (n := 0) (by decide +kernel) (by decide), ?_⟩
  refine List.forall_mem_cons.mpr ⟨ze_callVF (idx := 204) (by decide +kernel) ml_X11_204 mv_X8_reckon rfl, ?_⟩
  refine List.forall_mem_cons.mpr ⟨ze_astoreF_n (k := 2) (by decide +kernel) rfl (by decide), ?_⟩
  refine List.forall_mem_cons.mpr ⟨ze_aload_n (k := 0) (by decide +kernel) rfl, ?_⟩
  refine List.forall_mem_cons.mpr ⟨ze_getL (by decide +kernel) fl_X11_89 rfl (by decide), ?_⟩
  refine List.forall_mem_cons.mpr ⟨ze_aload_n (k := 0) (by decide +kernel) rfl, ?_⟩
  refine List.forall_mem_cons.mpr ⟨ze_getL (by decide +kernel) fl_X11_17 rfl (by decide), ?_⟩
  refine List.forall_mem_cons.mpr ⟨ze_aload_n (k := 2) (by decide +kernel) rfl, ?_⟩
  refine List.forall_mem_cons.mpr ⟨ze_callVF (idx := 288) (by decide +kernel) ml_X11_288 mv_X1_pour rfl, ?_⟩
  refine List.forall_mem_cons.mpr ⟨ze_iload_n (k := 1) (by decide +kernel) rfl, ?_⟩
  refine List.forall_mem_cons.mpr ⟨ze_iconst (n := 2) (by decide +kernel) (by decide), ?_⟩
  refine List.forall_mem_cons.mpr ⟨ze_icmp_ne (off := 11) (by decide +kernel) (by decide), ?_⟩
  refine List.forall_mem_cons.mpr ⟨ze_aload_n (k := 0) (by decide +kernel) rfl, ?_⟩
  refine List.forall_mem_cons.mpr ⟨ze_getL (by decide +kernel) fl_X11_89 rfl (by decide), ?_⟩
  refine List.forall_mem_cons.mpr ⟨ze_callVF (idx := 295) (by decide +kernel) ml_X11_295 mv_X1_atTheEnd rfl, ?_⟩
  refine List.forall_mem_cons.mpr ⟨ze_iret (by decide +kernel) rfl, ?_⟩
  refine List.forall_mem_cons.mpr ⟨ze_iconst (n := 0) (by decide +kernel) (by decide), ?_⟩
  refine List.forall_mem_cons.mpr ⟨ze_istoreF_n (k := 3) (by decide +kernel) rfl (by decide), ?_⟩
  refine List.forall_mem_cons.mpr ⟨ze_aload_n (k := 0) (by decide +kernel) rfl, ?_⟩
  refine List.forall_mem_cons.mpr ⟨ze_getL (by decide +kernel) fl_X11_17 rfl (by decide), ?_⟩
  refine List.forall_mem_cons.mpr ⟨ze_iconst (n := 0) (by decide +kernel) (by decide), ?_⟩
  refine List.forall_mem_cons.mpr ⟨ze_iald (by decide +kernel), ?_⟩
  refine List.forall_mem_cons.mpr ⟨ze_istoreF (by decide +kernel) (by decide), ?_⟩
  refine List.forall_mem_cons.mpr ⟨ze_iload (by decide +kernel), ?_⟩
  refine List.forall_mem_cons.mpr ⟨ze_aload_n (k := 0) (by decide +kernel) rfl, ?_⟩
  refine List.forall_mem_cons.mpr ⟨ze_getL (by decide +kernel) fl_X11_9 rfl (by decide), ?_⟩
  refine List.forall_mem_cons.mpr ⟨ze_iconst (n := 1) (by decide +kernel) (by decide), ?_⟩
  refine List.forall_mem_cons.mpr ⟨ze_iald (by decide +kernel), ?_⟩
  refine List.forall_mem_cons.mpr ⟨ze_icmp_ge (off := 25) (by decide +kernel) (by decide), ?_⟩
  refine List.forall_mem_cons.mpr ⟨ze_iload_n (k := 3) (by decide +kernel) rfl, ?_⟩
  refine List.forall_mem_cons.mpr ⟨ze_aload_n (k := 0) (by decide +kernel) rfl, ?_⟩
  refine List.forall_mem_cons.mpr ⟨ze_getL (by decide +kernel) fl_X11_89 rfl (by decide), ?_⟩
  refine List.forall_mem_cons.mpr ⟨ze_aload_n (k := 2) (by decide +kernel) rfl, ?_⟩
  refine List.forall_mem_cons.mpr ⟨ze_iload (by decide +kernel), ?_⟩
  refine List.forall_mem_cons.mpr ⟨ze_iload_n (k := 1) (by decide +kernel) rfl, ?_⟩
  refine List.forall_mem_cons.mpr ⟨ze_iconst (n := 1) (by decide +kernel) (by decide), ?_⟩
  refine List.forall_mem_cons.mpr ⟨ze_iadd (by decide +kernel), ?_⟩
  refine List.forall_mem_cons.mpr ⟨ze_callVF (idx := 298) (by decide +kernel) ml_X11_298 mv_X1_stopped rfl, ?_⟩
  refine List.forall_mem_cons.mpr ⟨ze_iadd (by decide +kernel), ?_⟩
  refine List.forall_mem_cons.mpr ⟨ze_istoreF_n (k := 3) (by decide +kernel) rfl (by decide), ?_⟩
  refine List.forall_mem_cons.mpr ⟨ze_iincF (n := 1) (by decide +kernel) (by decide) (by decide), ?_⟩
  refine List.forall_mem_cons.mpr ⟨ze_goto (off := -30) (by decide +kernel) (by decide), ?_⟩
  refine List.forall_mem_cons.mpr ⟨ze_iload_n (k := 3) (by decide +kernel) rfl, ?_⟩
  refine List.forall_mem_cons.mpr ⟨ze_iret (by decide +kernel) rfl, ?_⟩
  exact fun _ h => absurd h List.not_mem_nil
theorem vX11_masses {l : Launch} {G : GT} {d : Nat} {av : List Value} {Q : Po} {σ : Mm} (cs : List (Nat × List Nat)) (k : Nat) (h : vc l G d mX11_masses TX11_masses Q cs k TX11_masses (lv_args 0 av) [] σ) (hlen : (lg_sl av).length ≤ mX11_masses.2.2.1 := by exact Nat.le_of_ble_eq_true rfl) : MW l G d mX11_masses av σ Q := mw_vc TX11_masses_ok mc_X11_masses rfl hlen cs k rfl h
theorem wX11_masses {l : Launch} {G : GT} {d : Nat} {Q : Po} {pc : Nat} {lv : Lv} {st : List Value} {σ : Mm} (cs : List (Nat × List Nat)) (k : Nat) (h : vc l G d mX11_masses TX11_masses Q cs k (drp TX11_masses pc) lv st σ) (hpc : hdp (drp TX11_masses pc) = pc := by rfl) : Wp l G d mX11_masses pc lv st σ Q := wp_vc TX11_masses_ok cs k hpc h
def TX11_worth : List In := [(0, 1, zt_aload 0), (1, 4, zt_callVF mX11_closed 0 19), (4, 7, zt_if_eq 11), (7, 10, zt_lc (-1 : Int64)), (10, 11, zt_lret), (11, 12, zt_aload 0), (12, 15, zt_getL 19 8), (15, 16, zt_aload 0), (16, 19, zt_getL 19 1), (19, 20, zt_ic 0), (20, 21, zt_ic 0), (21, 24, zt_callVF mX8_reckon 3 16), (24, 27, zt_getL 15 0), (27, 28, zt_aload 0), (28, 31, zt_callVF mX11_here 0 19), (31, 32, zt_iald), (32, 33, zt_istoreF 1), (33, 34, zt_aload 0), (34, 35, zt_aload 0), (35, 38, zt_getL 19 1), (38, 39, zt_ic 2), (39, 40, zt_iald), (40, 41, zt_ic 0), (41, 42, zt_ic 2), (42, 45, zt_callVF mX11_costHere 3 19), (45, 46, zt_iload 1), (46, 47, zt_isub), (47, 48, zt_i2l), (48, 49, zt_lret)]
theorem TX11_worth_ok : ∀ i ∈ TX11_worth, Ent mX11_worth i := by
  refine List.forall_mem_cons.mpr ⟨ze_aload_n (k := 0) (by decide +kernel) rfl, ?_⟩
  refine List.forall_mem_cons.mpr ⟨ze_callVF (idx := 272) (by decide +kernel) ml_X11_272 mv_X11_closed rfl, ?_⟩
  refine List.forall_mem_cons.mpr ⟨ze_if_eq (off := 7) (by decide +kernel) (by decide), ?_⟩
  refine List.forall_mem_cons.mpr ⟨ze_ldc2 (i := 202) (by decide +kernel) kc_X11_202, ?_⟩
  refine List.forall_mem_cons.mpr ⟨ze_lret (by decide +kernel) rfl, ?_⟩
  refine List.forall_mem_cons.mpr ⟨ze_aload_n (k := 0) (by decide +kernel) rfl, ?_⟩
  refine List.forall_mem_cons.mpr ⟨ze_getL (by decide +kernel) fl_X11_57 rfl (by decide), ?_⟩
  refine List.forall_mem_cons.mpr ⟨ze_aload_n (k := 0) (by decide +kernel) rfl, ?_⟩
  refine List.forall_mem_cons.mpr ⟨ze_getL (by decide +kernel) fl_X11_17 rfl (by decide), ?_⟩
  refine List.forall_mem_cons.mpr ⟨ze_iconst (n := 0) (by decide +kernel) (by decide), ?_⟩
  refine List.forall_mem_cons.mpr ⟨ze_iconst (n := 0) (by decide +kernel) (by decide), ?_⟩
  refine List.forall_mem_cons.mpr ⟨ze_callVF (idx := 204) (by decide +kernel) ml_X11_204 mv_X8_reckon rfl, ?_⟩
  refine List.forall_mem_cons.mpr ⟨ze_getL (by decide +kernel) fl_X11_208 rfl (by decide), ?_⟩
  refine List.forall_mem_cons.mpr ⟨ze_aload_n (k := 0) (by decide +kernel) rfl, ?_⟩
  refine List.forall_mem_cons.mpr ⟨ze_callVF (idx := 301) (by decide +kernel) ml_X11_301 mv_X11_here rfl, ?_⟩
  refine List.forall_mem_cons.mpr ⟨ze_iald (by decide +kernel), ?_⟩
  refine List.forall_mem_cons.mpr ⟨ze_istoreF_n (k := 1) (by decide +kernel) rfl (by decide), ?_⟩
  refine List.forall_mem_cons.mpr ⟨ze_aload_n (k := 0) (by decide +kernel) rfl, ?_⟩
  refine List.forall_mem_cons.mpr ⟨ze_aload_n (k := 0) (by decide +kernel) rfl, ?_⟩
  refine List.forall_mem_cons.mpr ⟨ze_getL (by decide +kernel) fl_X11_17 rfl (by decide), ?_⟩
  refine List.forall_mem_cons.mpr ⟨ze_iconst (n := 2) (by decide +kernel) (by decide), ?_⟩
  refine List.forall_mem_cons.mpr ⟨ze_iald (by decide +kernel), ?_⟩
  refine List.forall_mem_cons.mpr ⟨ze_iconst (n := 0) (by decide +kernel) (by decide), ?_⟩
  refine List.forall_mem_cons.mpr ⟨ze_iconst (n := 2) (by decide +kernel) (by decide), ?_⟩
  refine List.forall_mem_cons.mpr ⟨ze_callVF (idx := 304) (by decide +kernel) ml_X11_304 mv_X11_costHere rfl, ?_⟩
  refine List.forall_mem_cons.mpr ⟨ze_iload_n (k := 1) (by decide +kernel) rfl, ?_⟩
  refine List.forall_mem_cons.mpr ⟨ze_isub (by decide +kernel), ?_⟩
  refine List.forall_mem_cons.mpr ⟨ze_i2l (by decide +kernel), ?_⟩
  refine List.forall_mem_cons.mpr ⟨ze_lret (by decide +kernel) rfl, ?_⟩
  exact fun _ h => absurd h List.not_mem_nil
theorem vX11_worth {l : Launch} {G : GT} {d : Nat} {av : List Value} {Q : Po} {σ : Mm} (cs : List (Nat × List Nat)) (k : Nat) (h : vc l G d mX11_worth TX11_worth Q cs k TX11_worth (lv_args 0 av) [] σ) (hlen : (lg_sl av).length ≤ mX11_worth.2.2.1 := by exact Nat.le_of_ble_eq_true rfl) : MW l G d mX11_worth av σ Q := mw_vc TX11_worth_ok mc_X11_worth rfl hlen cs k rfl h
theorem wX11_worth {l : Launch} {G : GT} {d : Nat} {Q : Po} {pc : Nat} {lv : Lv} {st : List Value} {σ : Mm} (cs : List (Nat × List Nat)) (k : Nat) (h : vc l G d mX11_worth TX11_worth Q cs k (drp TX11_worth pc) lv st σ) (hpc : hdp (drp TX11_worth pc) = pc := by rfl) : Wp l G d mX11_worth pc lv st σ Q := wp_vc TX11_worth_ok cs k hpc h
def TX11_costHere : List In := [(0, 1, zt_aload 0), (1, 4, zt_getL 19 8), (4, 7, zt_getL 16 3), (7, 9, zt_astoreF 4), (9, 11, zt_aload 4), (11, 12, zt_iload 1), (12, 15, zt_putI 15 5), (15, 17, zt_aload 4), (17, 18, zt_iload 2), (18, 21, zt_putI 15 6), (21, 22, zt_aload 0), (22, 25, zt_getL 19 8), (25, 27, zt_aload 4), (27, 28, zt_aload 0), (28, 31, zt_getL 19 1), (31, 32, zt_ic 0), (32, 33, zt_iald), (33, 34, zt_aload 0), (34, 37, zt_getL 19 1), (37, 38, zt_ic 1), (38, 39, zt_iald), (39, 40, zt_iload 3), (40, 43, zt_callVF mX8_build 4 16), (43, 45, zt_aload 4), (45, 48, zt_getL 15 0), (48, 49, zt_aload 0), (49, 52, zt_callVF mX11_here 0 19), (52, 53, zt_iald), (53, 54, zt_iret)]
theorem TX11_costHere_ok : ∀ i ∈ TX11_costHere, Ent mX11_costHere i := by
  refine List.forall_mem_cons.mpr ⟨ze_aload_n (k := 0) (by decide +kernel) rfl, ?_⟩
  refine List.forall_mem_cons.mpr ⟨ze_getL (by decide +kernel) fl_X11_57 rfl (by decide), ?_⟩
  refine List.forall_mem_cons.mpr ⟨ze_getL (by decide +kernel) fl_X11_308 rfl (by decide), ?_⟩
  refine List.forall_mem_cons.mpr ⟨ze_astoreF (by decide +kernel) (by decide), ?_⟩
  refine List.forall_mem_cons.mpr ⟨ze_aload (by decide +kernel), ?_⟩
  refine List.forall_mem_cons.mpr ⟨ze_iload_n (k := 1) (by decide +kernel) rfl, ?_⟩
  refine List.forall_mem_cons.mpr ⟨ze_putI (by decide +kernel) fl_X11_312 ⟨_, _, _, rfl, rfl, by decide +kernel⟩ rfl, ?_⟩
  refine List.forall_mem_cons.mpr ⟨ze_aload (by decide +kernel), ?_⟩
  refine List.forall_mem_cons.mpr ⟨ze_iload_n (k := 2) (by decide +kernel) rfl, ?_⟩
  refine List.forall_mem_cons.mpr ⟨ze_putI (by decide +kernel) fl_X11_213 ⟨_, _, _, rfl, rfl, by decide +kernel⟩ rfl, ?_⟩
  refine List.forall_mem_cons.mpr ⟨ze_aload_n (k := 0) (by decide +kernel) rfl, ?_⟩
  refine List.forall_mem_cons.mpr ⟨ze_getL (by decide +kernel) fl_X11_57 rfl (by decide), ?_⟩
  refine List.forall_mem_cons.mpr ⟨ze_aload (by decide +kernel), ?_⟩
  refine List.forall_mem_cons.mpr ⟨ze_aload_n (k := 0) (by decide +kernel) rfl, ?_⟩
  refine List.forall_mem_cons.mpr ⟨ze_getL (by decide +kernel) fl_X11_17 rfl (by decide), ?_⟩
  refine List.forall_mem_cons.mpr ⟨ze_iconst (n := 0) (by decide +kernel) (by decide), ?_⟩
  refine List.forall_mem_cons.mpr ⟨ze_iald (by decide +kernel), ?_⟩
  refine List.forall_mem_cons.mpr ⟨ze_aload_n (k := 0) (by decide +kernel) rfl, ?_⟩
  refine List.forall_mem_cons.mpr ⟨ze_getL (by decide +kernel) fl_X11_17 rfl (by decide), ?_⟩
  refine List.forall_mem_cons.mpr ⟨ze_iconst (n := 1) (by decide +kernel) (by decide), ?_⟩
  refine List.forall_mem_cons.mpr ⟨ze_iald (by decide +kernel), ?_⟩
  refine List.forall_mem_cons.mpr ⟨ze_iload_n (k := 3) (by decide +kernel) rfl, ?_⟩
  refine List.forall_mem_cons.mpr ⟨ze_callVF (idx := 315) (by decide +kernel) ml_X11_315 mv_X8_build rfl, ?_⟩
  refine List.forall_mem_cons.mpr ⟨ze_aload (by decide +kernel), ?_⟩
  refine List.forall_mem_cons.mpr ⟨ze_getL (by decide +kernel) fl_X11_208 rfl (by decide), ?_⟩
  refine List.forall_mem_cons.mpr ⟨ze_aload_n (k := 0) (by decide +kernel) rfl, ?_⟩
  refine List.forall_mem_cons.mpr ⟨ze_callVF (idx := 301) (by decide +kernel) ml_X11_301 mv_X11_here rfl, ?_⟩
  refine List.forall_mem_cons.mpr ⟨ze_iald (by decide +kernel), ?_⟩
  refine List.forall_mem_cons.mpr ⟨ze_iret (by decide +kernel) rfl, ?_⟩
  exact fun _ h => absurd h List.not_mem_nil
theorem vX11_costHere {l : Launch} {G : GT} {d : Nat} {av : List Value} {Q : Po} {σ : Mm} (cs : List (Nat × List Nat)) (k : Nat) (h : vc l G d mX11_costHere TX11_costHere Q cs k TX11_costHere (lv_args 0 av) [] σ) (hlen : (lg_sl av).length ≤ mX11_costHere.2.2.1 := by exact Nat.le_of_ble_eq_true rfl) : MW l G d mX11_costHere av σ Q := mw_vc TX11_costHere_ok mc_X11_costHere rfl hlen cs k rfl h
theorem wX11_costHere {l : Launch} {G : GT} {d : Nat} {Q : Po} {pc : Nat} {lv : Lv} {st : List Value} {σ : Mm} (cs : List (Nat × List Nat)) (k : Nat) (h : vc l G d mX11_costHere TX11_costHere Q cs k (drp TX11_costHere pc) lv st σ) (hpc : hdp (drp TX11_costHere pc) = pc := by rfl) : Wp l G d mX11_costHere pc lv st σ Q := wp_vc TX11_costHere_ok cs k hpc h
def TX11_margin : List In := [(0, 1, zt_aload 0), (1, 4, zt_callVF mX11_closed 0 19), (4, 7, zt_if_ne 23), (7, 8, zt_aload 0), (8, 11, zt_getL 19 8), (11, 12, zt_aload 0), (12, 15, zt_getL 19 1), (15, 16, zt_ic 0), (16, 17, zt_iald), (17, 20, zt_callVF mX8_mayCall 1 16), (20, 23, zt_if_ne 27), (23, 26, zt_lc (-1000000 : Int64)), (26, 27, zt_lret), (27, 28, zt_aload 0), (28, 31, zt_getL 19 8), (31, 32, zt_aload 0), (32, 35, zt_getL 19 1), (35, 36, zt_ic 0), (36, 37, zt_ic 0), (37, 40, zt_callVF mX8_reckon 3 16), (40, 41, zt_astoreF 1), (41, 42, zt_aload 0), (42, 45, zt_callVF mX11_here 0 19), (45, 46, zt_istoreF 2), (46, 47, zt_aload 0), (47, 50, zt_getL 19 8), (50, 51, zt_aload 1), (51, 52, zt_iload 2), (52, 53, zt_ic 1), (53, 56, zt_callVF mX8_costOf 3 16), (56, 57, zt_istoreF 3), (57, 58, zt_aload 1), (58, 61, zt_getI 15 6), (61, 64, zt_if_le 79), (64, 65, zt_iload 3), (65, 66, zt_aload 0), (66, 69, zt_getL 19 8), (69, 70, zt_aload 1), (70, 71, zt_iload 2), (71, 72, zt_ic 2), (72, 75, zt_callVF mX8_costOf 3 16), (75, 78, zt_min), (78, 79, zt_istoreF 3), (79, 80, zt_aload 1), (80, 83, zt_getL 15 1), (83, 84, zt_iload 2), (84, 85, zt_iald), (85, 86, zt_iload 3), (86, 87, zt_isub), (87, 88, zt_i2l), (88, 89, zt_lret)]
theorem TX11_margin_ok : ∀ i ∈ TX11_margin, Ent mX11_margin i := by
  refine List.forall_mem_cons.mpr ⟨ze_aload_n (k := 0) (by decide +kernel) rfl, ?_⟩
  refine List.forall_mem_cons.mpr ⟨ze_callVF (idx := 272) (by decide +kernel) ml_X11_272 mv_X11_closed rfl, ?_⟩
  refine List.forall_mem_cons.mpr ⟨ze_if_ne (off := 19) (by decide +kernel) (by decide), ?_⟩
  refine List.forall_mem_cons.mpr ⟨ze_aload_n (k := 0) (by decide +kernel) rfl, ?_⟩
  refine List.forall_mem_cons.mpr ⟨ze_getL (by decide +kernel) fl_X11_57 rfl (by decide), ?_⟩
  refine List.forall_mem_cons.mpr ⟨ze_aload_n (k := 0) (by decide +kernel) rfl, ?_⟩
  refine List.forall_mem_cons.mpr ⟨ze_getL (by decide +kernel) fl_X11_17 rfl (by decide), ?_⟩
  refine List.forall_mem_cons.mpr ⟨ze_iconst (n := 0) (by decide +kernel) (by decide), ?_⟩
  refine List.forall_mem_cons.mpr ⟨ze_iald (by decide +kernel), ?_⟩
  refine List.forall_mem_cons.mpr ⟨ze_callVF (idx := 319) (by decide +kernel) ml_X11_319 mv_X8_mayCall rfl, ?_⟩
  refine List.forall_mem_cons.mpr ⟨ze_if_ne (off := 7) (by decide +kernel) (by decide), ?_⟩
  refine List.forall_mem_cons.mpr ⟨ze_ldc2 (i := 200) (by decide +kernel) kc_X11_200, ?_⟩
  refine List.forall_mem_cons.mpr ⟨ze_lret (by decide +kernel) rfl, ?_⟩
  refine List.forall_mem_cons.mpr ⟨ze_aload_n (k := 0) (by decide +kernel) rfl, ?_⟩
  refine List.forall_mem_cons.mpr ⟨ze_getL (by decide +kernel) fl_X11_57 rfl (by decide), ?_⟩
  refine List.forall_mem_cons.mpr ⟨ze_aload_n (k := 0) (by decide +kernel) rfl, ?_⟩
  refine List.forall_mem_cons.mpr ⟨ze_getL (by decide +kernel) fl_X11_17 rfl (by decide), ?_⟩
  refine List.forall_mem_cons.mpr ⟨ze_iconst (n := 0) (by decide +kernel) (by decide), ?_⟩
  refine List.forall_mem_cons.mpr ⟨ze_iconst (n := 0) (by decide +kernel) (by decide), ?_⟩
  refine List.forall_mem_cons.mpr ⟨ze_callVF (idx := 204) (by decide +kernel) ml_X11_204 mv_X8_reckon rfl, ?_⟩
  refine List.forall_mem_cons.mpr ⟨ze_astoreF_n (k := 1) (by decide +kernel) rfl (by decide), ?_⟩
  refine List.forall_mem_cons.mpr ⟨ze_aload_n (k := 0) (by decide +kernel) rfl, ?_⟩
  refine List.forall_mem_cons.mpr ⟨ze_callVF (idx := 301) (by decide +kernel) ml_X11_301 mv_X11_here rfl, ?_⟩
  refine List.forall_mem_cons.mpr ⟨ze_istoreF_n (k := 2) (by decide +kernel) rfl (by decide), ?_⟩
  refine List.forall_mem_cons.mpr ⟨ze_aload_n (k := 0) (by decide +kernel) rfl, ?_⟩
  refine List.forall_mem_cons.mpr ⟨ze_getL (by decide +kernel) fl_X11_57 rfl (by decide), ?_⟩
  refine List.forall_mem_cons.mpr ⟨ze_aload_n (k := 1) (by decide +kernel) rfl, ?_⟩
  refine List.forall_mem_cons.mpr ⟨ze_iload_n (k := 2) (by decide +kernel) rfl, ?_⟩
  refine List.forall_mem_cons.mpr ⟨ze_iconst (n := 1) (by decide +kernel) (by decide), ?_⟩
  refine List.forall_mem_cons.mpr ⟨ze_callVF (idx := 219) (by decide +kernel) ml_X11_219 mv_X8_costOf rfl, ?_⟩
  refine List.forall_mem_cons.mpr ⟨ze_istoreF_n (k := 3) (by decide +kernel) rfl (by decide), ?_⟩
  refine List.forall_mem_cons.mpr ⟨ze_aload_n (k := 1) (by decide +kernel) rfl, ?_⟩
  refine List.forall_mem_cons.mpr ⟨ze_getI (by decide +kernel) fl_X11_213 rfl, ?_⟩
  refine List.forall_mem_cons.mpr ⟨ze_if_le (off := 18) (by decide +kernel) (by decide), ?_⟩
  refine List.forall_mem_cons.mpr ⟨ze_iload_n (k := 3) (by decide +kernel) rfl, ?_⟩
  refine List.forall_mem_cons.mpr ⟨ze_aload_n (k := 0) (by decide +kernel) rfl, ?_⟩
  refine List.forall_mem_cons.mpr ⟨ze_getL (by decide +kernel) fl_X11_57 rfl (by decide), ?_⟩
  refine List.forall_mem_cons.mpr ⟨ze_aload_n (k := 1) (by decide +kernel) rfl, ?_⟩
  refine List.forall_mem_cons.mpr ⟨ze_iload_n (k := 2) (by decide +kernel) rfl, ?_⟩
  refine List.forall_mem_cons.mpr ⟨ze_iconst (n := 2) (by decide +kernel) (by decide), ?_⟩
  refine List.forall_mem_cons.mpr ⟨ze_callVF (idx := 219) (by decide +kernel) ml_X11_219 mv_X8_costOf rfl, ?_⟩
  refine List.forall_mem_cons.mpr ⟨ze_min (idx := 323) (by decide +kernel) ml_X11_323 jmn.1 jmn.2.1 jmn.2.2, ?_⟩
  refine List.forall_mem_cons.mpr ⟨ze_istoreF_n (k := 3) (by decide +kernel) rfl (by decide), ?_⟩
  refine List.forall_mem_cons.mpr ⟨ze_aload_n (k := 1) (by decide +kernel) rfl, ?_⟩
  refine List.forall_mem_cons.mpr ⟨ze_getL (by decide +kernel) fl_X11_328 rfl (by decide), ?_⟩
  refine List.forall_mem_cons.mpr ⟨ze_iload_n (k := 2) (by decide +kernel) rfl, ?_⟩
  refine List.forall_mem_cons.mpr ⟨ze_iald (by decide +kernel), ?_⟩
  refine List.forall_mem_cons.mpr ⟨ze_iload_n (k := 3) (by decide +kernel) rfl, ?_⟩
  refine List.forall_mem_cons.mpr ⟨ze_isub (by decide +kernel), ?_⟩
  refine List.forall_mem_cons.mpr ⟨ze_i2l (by decide +kernel), ?_⟩
  refine List.forall_mem_cons.mpr ⟨ze_lret (by decide +kernel) rfl, ?_⟩
  exact fun _ h => absurd h List.not_mem_nil
theorem vX11_margin {l : Launch} {G : GT} {d : Nat} {av : List Value} {Q : Po} {σ : Mm} (cs : List (Nat × List Nat)) (k : Nat) (h : vc l G d mX11_margin TX11_margin Q cs k TX11_margin (lv_args 0 av) [] σ) (hlen : (lg_sl av).length ≤ mX11_margin.2.2.1 := by exact Nat.le_of_ble_eq_true rfl) : MW l G d mX11_margin av σ Q := mw_vc TX11_margin_ok mc_X11_margin rfl hlen cs k rfl h
theorem wX11_margin {l : Launch} {G : GT} {d : Nat} {Q : Po} {pc : Nat} {lv : Lv} {st : List Value} {σ : Mm} (cs : List (Nat × List Nat)) (k : Nat) (h : vc l G d mX11_margin TX11_margin Q cs k (drp TX11_margin pc) lv st σ) (hpc : hdp (drp TX11_margin pc) = pc := by rfl) : Wp l G d mX11_margin pc lv st σ Q := wp_vc TX11_margin_ok cs k hpc h
def TX11_till : List In := [(0, 1, zt_aload 0), (1, 4, zt_callVF mX11_closed 0 19), (4, 7, zt_if_ne 23), (7, 8, zt_aload 0), (8, 11, zt_getL 19 8), (11, 12, zt_aload 0), (12, 15, zt_getL 19 1), (15, 16, zt_ic 0), (16, 17, zt_iald), (17, 20, zt_callVF mX8_mayCall 1 16), (20, 23, zt_if_ne 25), (23, 24, zt_ic (-1)), (24, 25, zt_iret), (25, 26, zt_aload 0), (26, 29, zt_getL 19 8), (29, 30, zt_aload 0), (30, 33, zt_getL 19 1), (33, 34, zt_ic 0), (34, 35, zt_ic 0), (35, 38, zt_callVF mX8_reckon 3 16), (38, 39, zt_astoreF 1), (39, 40, zt_aload 0), (40, 41, zt_aload 1), (41, 42, zt_aload 1), (42, 45, zt_getL 15 0), (45, 48, zt_callVF mX11_weighedHere 2 19), (48, 49, zt_istoreF 2), (49, 50, zt_aload 0), (50, 53, zt_getL 19 0), (53, 55, zt_ic 10), (55, 56, zt_iald), (56, 59, zt_if_le 68), (59, 60, zt_aload 0), (60, 61, zt_aload 1), (61, 62, zt_iload 2), (62, 65, zt_callVF mX11_tillWithNotice 2 19), (65, 68, zt_goto 73), (68, 69, zt_aload 0), (69, 70, zt_iload 2), (70, 73, zt_callVF mX11_tillAtOnce 1 19), (73, 74, zt_iret)]
theorem TX11_till_ok : ∀ i ∈ TX11_till, Ent mX11_till i := by
  refine List.forall_mem_cons.mpr ⟨ze_aload_n (k := 0) (by decide +kernel) rfl, ?_⟩
  refine List.forall_mem_cons.mpr ⟨ze_callVF (idx := 272) (by decide +kernel) ml_X11_272 mv_X11_closed rfl, ?_⟩
  refine List.forall_mem_cons.mpr ⟨ze_if_ne (off := 19) (by decide +kernel) (by decide), ?_⟩
  refine List.forall_mem_cons.mpr ⟨ze_aload_n (k := 0) (by decide +kernel) rfl, ?_⟩
  refine List.forall_mem_cons.mpr ⟨ze_getL (by decide +kernel) fl_X11_57 rfl (by decide), ?_⟩
  refine List.forall_mem_cons.mpr ⟨ze_aload_n (k := 0) (by decide +kernel) rfl, ?_⟩
  refine List.forall_mem_cons.mpr ⟨ze_getL (by decide +kernel) fl_X11_17 rfl (by decide), ?_⟩
  refine List.forall_mem_cons.mpr ⟨ze_iconst (n := 0) (by decide +kernel) (by decide), ?_⟩
  refine List.forall_mem_cons.mpr ⟨ze_iald (by decide +kernel), ?_⟩
  refine List.forall_mem_cons.mpr ⟨ze_callVF (idx := 319) (by decide +kernel) ml_X11_319 mv_X8_mayCall rfl, ?_⟩
  refine List.forall_mem_cons.mpr ⟨ze_if_ne (off := 5) (by decide +kernel) (by decide), ?_⟩
  refine List.forall_mem_cons.mpr ⟨ze_iconst (n := -1) (by decide +kernel) (by decide), ?_⟩
  refine List.forall_mem_cons.mpr ⟨ze_iret (by decide +kernel) rfl, ?_⟩
  refine List.forall_mem_cons.mpr ⟨ze_aload_n (k := 0) (by decide +kernel) rfl, ?_⟩
  refine List.forall_mem_cons.mpr ⟨ze_getL (by decide +kernel) fl_X11_57 rfl (by decide), ?_⟩
  refine List.forall_mem_cons.mpr ⟨ze_aload_n (k := 0) (by decide +kernel) rfl, ?_⟩
  refine List.forall_mem_cons.mpr ⟨ze_getL (by decide +kernel) fl_X11_17 rfl (by decide), ?_⟩
  refine List.forall_mem_cons.mpr ⟨ze_iconst (n := 0) (by decide +kernel) (by decide), ?_⟩
  refine List.forall_mem_cons.mpr ⟨ze_iconst (n := 0) (by decide +kernel) (by decide), ?_⟩
  refine List.forall_mem_cons.mpr ⟨ze_callVF (idx := 204) (by decide +kernel) ml_X11_204 mv_X8_reckon rfl, ?_⟩
  refine List.forall_mem_cons.mpr ⟨ze_astoreF_n (k := 1) (by decide +kernel) rfl (by decide), ?_⟩
  refine List.forall_mem_cons.mpr ⟨ze_aload_n (k := 0) (by decide +kernel) rfl, ?_⟩
  refine List.forall_mem_cons.mpr ⟨ze_aload_n (k := 1) (by decide +kernel) rfl, ?_⟩
  refine List.forall_mem_cons.mpr ⟨ze_aload_n (k := 1) (by decide +kernel) rfl, ?_⟩
  refine List.forall_mem_cons.mpr ⟨ze_getL (by decide +kernel) fl_X11_208 rfl (by decide), ?_⟩
  refine List.forall_mem_cons.mpr ⟨ze_callVF (idx := 331) (by decide +kernel) ml_X11_331 mv_X11_weighedHere rfl, ?_⟩
  refine List.forall_mem_cons.mpr ⟨ze_istoreF_n (k := 2) (by decide +kernel) rfl (by decide), ?_⟩
  refine List.forall_mem_cons.mpr ⟨ze_aload_n (k := 0) (by decide +kernel) rfl, ?_⟩
  refine List.forall_mem_cons.mpr ⟨ze_getL (by decide +kernel) fl_X11_9 rfl (by decide), ?_⟩
  refine List.forall_mem_cons.mpr ⟨ze_bipush (n := 10) (by decide +kernel) (by decide), ?_⟩
  refine List.forall_mem_cons.mpr ⟨ze_iald (by decide +kernel), ?_⟩
  refine List.forall_mem_cons.mpr ⟨ze_if_le (off := 12) (by decide +kernel) (by decide), ?_⟩
  refine List.forall_mem_cons.mpr ⟨ze_aload_n (k := 0) (by decide +kernel) rfl, ?_⟩
  refine List.forall_mem_cons.mpr ⟨ze_aload_n (k := 1) (by decide +kernel) rfl, ?_⟩
  refine List.forall_mem_cons.mpr ⟨ze_iload_n (k := 2) (by decide +kernel) rfl, ?_⟩
  refine List.forall_mem_cons.mpr ⟨ze_callVF (idx := 335) (by decide +kernel) ml_X11_335 mv_X11_tillWithNotice rfl, ?_⟩
  refine List.forall_mem_cons.mpr ⟨ze_goto (off := 8) (by decide +kernel) (by decide), ?_⟩
  refine List.forall_mem_cons.mpr ⟨ze_aload_n (k := 0) (by decide +kernel) rfl, ?_⟩
  refine List.forall_mem_cons.mpr ⟨ze_iload_n (k := 2) (by decide +kernel) rfl, ?_⟩
  refine List.forall_mem_cons.mpr ⟨ze_callVF (idx := 339) (by decide +kernel) ml_X11_339 mv_X11_tillAtOnce rfl, ?_⟩
  refine List.forall_mem_cons.mpr ⟨ze_iret (by decide +kernel) rfl, ?_⟩
  exact fun _ h => absurd h List.not_mem_nil
theorem vX11_till {l : Launch} {G : GT} {d : Nat} {av : List Value} {Q : Po} {σ : Mm} (cs : List (Nat × List Nat)) (k : Nat) (h : vc l G d mX11_till TX11_till Q cs k TX11_till (lv_args 0 av) [] σ) (hlen : (lg_sl av).length ≤ mX11_till.2.2.1 := by exact Nat.le_of_ble_eq_true rfl) : MW l G d mX11_till av σ Q := mw_vc TX11_till_ok mc_X11_till rfl hlen cs k rfl h
theorem wX11_till {l : Launch} {G : GT} {d : Nat} {Q : Po} {pc : Nat} {lv : Lv} {st : List Value} {σ : Mm} (cs : List (Nat × List Nat)) (k : Nat) (h : vc l G d mX11_till TX11_till Q cs k (drp TX11_till pc) lv st σ) (hpc : hdp (drp TX11_till pc) = pc := by rfl) : Wp l G d mX11_till pc lv st σ Q := wp_vc TX11_till_ok cs k hpc h
def TX11_weighedHere : List In := [(0, 1, zt_aload 0), (1, 4, zt_getL 19 1), (4, 5, zt_ic 0), (5, 6, zt_iald), (6, 7, zt_istoreF 3), (7, 8, zt_aload 0), (8, 11, zt_getL 19 8), (11, 12, zt_aload 2), (12, 13, zt_iload 3), (13, 14, zt_aload 0), (14, 17, zt_callVF mX11_here 0 19), (17, 18, zt_aload 0), (18, 21, zt_getL 19 8), (21, 22, zt_iload 3), (22, 23, zt_ic 1), (23, 24, zt_iadd), (24, 25, zt_aload 1), (25, 28, zt_getI 15 5), (28, 31, zt_callVF mX8_dueAt 2 16), (31, 34, zt_callVF mX8_weigh 4 16), (34, 35, zt_iret)]
theorem TX11_weighedHere_ok : ∀ i ∈ TX11_weighedHere, Ent mX11_weighedHere i := by
  refine List.forall_mem_cons.mpr ⟨ze_aload_n (k := 0) (by decide +kernel) rfl, ?_⟩
  refine List.forall_mem_cons.mpr ⟨ze_getL (by decide +kernel) fl_X11_17 rfl (by decide), ?_⟩
  refine List.forall_mem_cons.mpr ⟨ze_iconst (n := 0) (by decide +kernel) (by decide), ?_⟩
  refine List.forall_mem_cons.mpr ⟨ze_iald (by decide +kernel), ?_⟩
  refine List.forall_mem_cons.mpr ⟨ze_istoreF_n (k := 3) (by decide +kernel) rfl (by decide), ?_⟩
  refine List.forall_mem_cons.mpr ⟨ze_aload_n (k := 0) (by decide +kernel) rfl, ?_⟩
  refine List.forall_mem_cons.mpr ⟨ze_getL (by decide +kernel) fl_X11_57 rfl (by decide), ?_⟩
  refine List.forall_mem_cons.mpr ⟨ze_aload_n (k := 2) (by decide +kernel) rfl, ?_⟩
  refine List.forall_mem_cons.mpr ⟨ze_iload_n (k := 3) (by decide +kernel) rfl, ?_⟩
  refine List.forall_mem_cons.mpr ⟨ze_aload_n (k := 0) (by decide +kernel) rfl, ?_⟩
  refine List.forall_mem_cons.mpr ⟨ze_callVF (idx := 301) (by decide +kernel) ml_X11_301 mv_X11_here rfl, ?_⟩
  refine List.forall_mem_cons.mpr ⟨ze_aload_n (k := 0) (by decide +kernel) rfl, ?_⟩
  refine List.forall_mem_cons.mpr ⟨ze_getL (by decide +kernel) fl_X11_57 rfl (by decide), ?_⟩
  refine List.forall_mem_cons.mpr ⟨ze_iload_n (k := 3) (by decide +kernel) rfl, ?_⟩
  refine List.forall_mem_cons.mpr ⟨ze_iconst (n := 1) (by decide +kernel) (by decide), ?_⟩
  refine List.forall_mem_cons.mpr ⟨ze_iadd (by decide +kernel), ?_⟩
  refine List.forall_mem_cons.mpr ⟨ze_aload_n (k := 1) (by decide +kernel) rfl, ?_⟩
  refine List.forall_mem_cons.mpr ⟨ze_getI (by decide +kernel) fl_X11_312 rfl, ?_⟩
  refine List.forall_mem_cons.mpr ⟨ze_callVF (idx := 342) (by decide +kernel) ml_X11_342 mv_X8_dueAt rfl, ?_⟩
  refine List.forall_mem_cons.mpr ⟨ze_callVF (idx := 345) (by decide +kernel) ml_X11_345 mv_X8_weigh rfl, ?_⟩
  refine List.forall_mem_cons.mpr ⟨ze_iret (by decide +kernel) rfl, ?_⟩
  exact fun _ h => absurd h List.not_mem_nil
theorem vX11_weighedHere {l : Launch} {G : GT} {d : Nat} {av : List Value} {Q : Po} {σ : Mm} (cs : List (Nat × List Nat)) (k : Nat) (h : vc l G d mX11_weighedHere TX11_weighedHere Q cs k TX11_weighedHere (lv_args 0 av) [] σ) (hlen : (lg_sl av).length ≤ mX11_weighedHere.2.2.1 := by exact Nat.le_of_ble_eq_true rfl) : MW l G d mX11_weighedHere av σ Q := mw_vc TX11_weighedHere_ok mc_X11_weighedHere rfl hlen cs k rfl h
theorem wX11_weighedHere {l : Launch} {G : GT} {d : Nat} {Q : Po} {pc : Nat} {lv : Lv} {st : List Value} {σ : Mm} (cs : List (Nat × List Nat)) (k : Nat) (h : vc l G d mX11_weighedHere TX11_weighedHere Q cs k (drp TX11_weighedHere pc) lv st σ) (hpc : hdp (drp TX11_weighedHere pc) = pc := by rfl) : Wp l G d mX11_weighedHere pc lv st σ Q := wp_vc TX11_weighedHere_ok cs k hpc h
def TX11_tillWithNotice : List In := [(0, 1, zt_aload 0), (1, 4, zt_getL 19 0), (4, 6, zt_ic 10), (6, 7, zt_iald), (7, 8, zt_ic 1), (8, 9, zt_isub), (9, 10, zt_istoreF 3), (10, 11, zt_aload 0), (11, 12, zt_aload 1), (12, 13, zt_aload 1), (13, 16, zt_getL 15 3), (16, 17, zt_iload 3), (17, 18, zt_aald), (18, 21, zt_callVF mX11_weighedHere 2 19), (21, 23, zt_istoreF 4), (23, 24, zt_aload 1), (24, 27, zt_getI 15 6), (27, 30, zt_if_le 48), (30, 32, zt_iload 4), (32, 33, zt_aload 0), (33, 34, zt_aload 1), (34, 35, zt_aload 1), (35, 38, zt_getL 15 4), (38, 39, zt_iload 3), (39, 40, zt_aald), (40, 43, zt_callVF mX11_weighedHere 2 19), (43, 46, zt_min), (46, 48, zt_istoreF 4), (48, 51, zt_ic 999), (51, 53, zt_istoreF 5), (53, 55, zt_iload 5), (55, 58, zt_if_lt 93), (58, 60, zt_iload 4), (60, 62, zt_ic 10), (62, 63, zt_imul), (63, 66, zt_ic 1000), (66, 68, zt_iload 5), (68, 69, zt_iadd), (69, 70, zt_idiv), (70, 71, zt_iload 2), (71, 73, zt_ic 10), (73, 74, zt_imul), (74, 77, zt_ic 1000), (77, 79, zt_iload 5), (79, 80, zt_iadd), (80, 81, zt_idiv), (81, 84, zt_icmp_ge 87), (84, 86, zt_iload 5), (86, 87, zt_iret), (87, 90, zt_iincF 5 (-1)), (90, 93, zt_goto 53), (93, 94, zt_ic (-1)), (94, 95, zt_iret)]
theorem TX11_tillWithNotice_ok : ∀ i ∈ TX11_tillWithNotice, Ent mX11_tillWithNotice i := by
  refine List.forall_mem_cons.mpr ⟨ze_aload_n (k := 0) (by decide +kernel) rfl, ?_⟩
  refine List.forall_mem_cons.mpr ⟨ze_getL (by decide +kernel) fl_X11_9 rfl (by decide), ?_⟩
  refine List.forall_mem_cons.mpr ⟨ze_bipush (n := 10) (by decide +kernel) (by decide), ?_⟩
  refine List.forall_mem_cons.mpr ⟨ze_iald (by decide +kernel), ?_⟩
  refine List.forall_mem_cons.mpr ⟨ze_iconst (n := 1) (by decide +kernel) (by decide), ?_⟩
  refine List.forall_mem_cons.mpr ⟨ze_isub (by decide +kernel), ?_⟩
  refine List.forall_mem_cons.mpr ⟨ze_istoreF_n (k := 3) (by decide +kernel) rfl (by decide), ?_⟩
  refine List.forall_mem_cons.mpr ⟨ze_aload_n (k := 0) (by decide +kernel) rfl, ?_⟩
  refine List.forall_mem_cons.mpr ⟨ze_aload_n (k := 1) (by decide +kernel) rfl, ?_⟩
  refine List.forall_mem_cons.mpr ⟨ze_aload_n (k := 1) (by decide +kernel) rfl, ?_⟩
  refine List.forall_mem_cons.mpr ⟨ze_getL (by decide +kernel) fl_X11_349 rfl (by decide), ?_⟩
  refine List.forall_mem_cons.mpr ⟨ze_iload_n (k := 3) (by decide +kernel) rfl, ?_⟩
  refine List.forall_mem_cons.mpr ⟨ze_aald (by decide +kernel), ?_⟩
  refine List.forall_mem_cons.mpr ⟨ze_callVF (idx := 331) (by decide +kernel) ml_X11_331 mv_X11_weighedHere rfl, ?_⟩
  refine List.forall_mem_cons.mpr ⟨ze_istoreF (by decide +kernel) (by decide), ?_⟩
  refine List.forall_mem_cons.mpr ⟨ze_aload_n (k := 1) (by decide +kernel) rfl, ?_⟩
  refine List.forall_mem_cons.mpr ⟨ze_getI (by decide +kernel) fl_X11_213 rfl, ?_⟩
  refine List.forall_mem_cons.mpr ⟨ze_if_le (off := 21) (by decide +kernel) (by decide), ?_⟩
  refine List.forall_mem_cons.mpr ⟨ze_iload (by decide +kernel), ?_⟩
  refine List.forall_mem_cons.mpr ⟨ze_aload_n (k := 0) (by decide +kernel) rfl, ?_⟩
  refine List.forall_mem_cons.mpr ⟨ze_aload_n (k := 1) (by decide +kernel) rfl, ?_⟩
  refine List.forall_mem_cons.mpr ⟨ze_aload_n (k := 1) (by decide +kernel) rfl, ?_⟩
  refine List.forall_mem_cons.mpr ⟨ze_getL (by decide +kernel) fl_X11_353 rfl (by decide), ?_⟩
  refine List.forall_mem_cons.mpr ⟨ze_iload_n (k := 3) (by decide +kernel) rfl, ?_⟩
  refine List.forall_mem_cons.mpr ⟨ze_aald (by decide +kernel), ?_⟩
  refine List.forall_mem_cons.mpr ⟨ze_callVF (idx := 331) (by decide +kernel) ml_X11_331 mv_X11_weighedHere rfl, ?_⟩
  refine List.forall_mem_cons.mpr ⟨ze_min (idx := 323) (by decide +kernel) ml_X11_323 jmn.1 jmn.2.1 jmn.2.2, ?_⟩
  refine List.forall_mem_cons.mpr ⟨ze_istoreF (by decide +kernel) (by decide), ?_⟩
  refine List.forall_mem_cons.mpr ⟨ze_sipush (n := 999) (by decide +kernel) (by decide), ?_⟩
  refine List.forall_mem_cons.mpr ⟨ze_istoreF (by decide +kernel) (by decide), ?_⟩
  refine List.forall_mem_cons.mpr ⟨ze_iload (by decide +kernel), ?_⟩
  refine List.forall_mem_cons.mpr ⟨ze_if_lt (off := 38) (by decide +kernel) (by decide), ?_⟩
  refine List.forall_mem_cons.mpr ⟨ze_iload (by decide +kernel), ?_⟩
  refine List.forall_mem_cons.mpr ⟨ze_bipush (n := 10) (by decide +kernel) (by decide), ?_⟩
  refine List.forall_mem_cons.mpr ⟨ze_imul (by decide +kernel), ?_⟩
  refine List.forall_mem_cons.mpr ⟨ze_sipush (n := 1000) (by decide +kernel) (by decide), ?_⟩
  refine List.forall_mem_cons.mpr ⟨ze_iload (by decide +kernel), ?_⟩
  refine List.forall_mem_cons.mpr ⟨ze_iadd (by decide +kernel), ?_⟩
  refine List.forall_mem_cons.mpr ⟨ze_idiv (by decide +kernel), ?_⟩
  refine List.forall_mem_cons.mpr ⟨ze_iload_n (k := 2) (by decide +kernel) rfl, ?_⟩
  refine List.forall_mem_cons.mpr ⟨ze_bipush (n := 10) (by decide +kernel) (by decide), ?_⟩
  refine List.forall_mem_cons.mpr ⟨ze_imul (by decide +kernel), ?_⟩
  refine List.forall_mem_cons.mpr ⟨ze_sipush (n := 1000) (by decide +kernel) (by decide), ?_⟩
  refine List.forall_mem_cons.mpr ⟨ze_iload (by decide +kernel), ?_⟩
  refine List.forall_mem_cons.mpr ⟨ze_iadd (by decide +kernel), ?_⟩
  refine List.forall_mem_cons.mpr ⟨ze_idiv (by decide +kernel), ?_⟩
  refine List.forall_mem_cons.mpr ⟨ze_icmp_ge (off := 6) (by decide +kernel) (by decide), ?_⟩
  refine List.forall_mem_cons.mpr ⟨ze_iload (by decide +kernel), ?_⟩
  refine List.forall_mem_cons.mpr ⟨ze_iret (by decide +kernel) rfl, ?_⟩
  refine List.forall_mem_cons.mpr ⟨ze_iincF (n := -1) (by decide +kernel) (by decide) (by decide), ?_⟩
  refine List.forall_mem_cons.mpr ⟨ze_goto (off := -37) (by decide +kernel) (by decide), ?_⟩
  refine List.forall_mem_cons.mpr ⟨ze_iconst (n := -1) (by decide +kernel) (by decide), ?_⟩
  refine List.forall_mem_cons.mpr ⟨ze_iret (by decide +kernel) rfl, ?_⟩
  exact fun _ h => absurd h List.not_mem_nil
theorem vX11_tillWithNotice {l : Launch} {G : GT} {d : Nat} {av : List Value} {Q : Po} {σ : Mm} (cs : List (Nat × List Nat)) (k : Nat) (h : vc l G d mX11_tillWithNotice TX11_tillWithNotice Q cs k TX11_tillWithNotice (lv_args 0 av) [] σ) (hlen : (lg_sl av).length ≤ mX11_tillWithNotice.2.2.1 := by exact Nat.le_of_ble_eq_true rfl) : MW l G d mX11_tillWithNotice av σ Q := mw_vc TX11_tillWithNotice_ok mc_X11_tillWithNotice rfl hlen cs k rfl h
theorem wX11_tillWithNotice {l : Launch} {G : GT} {d : Nat} {Q : Po} {pc : Nat} {lv : Lv} {st : List Value} {σ : Mm} (cs : List (Nat × List Nat)) (k : Nat) (h : vc l G d mX11_tillWithNotice TX11_tillWithNotice Q cs k (drp TX11_tillWithNotice pc) lv st σ) (hpc : hdp (drp TX11_tillWithNotice pc) = pc := by rfl) : Wp l G d mX11_tillWithNotice pc lv st σ Q := wp_vc TX11_tillWithNotice_ok cs k hpc h
def TX11_tillAtOnce : List In := [(0, 1, zt_ic (-1)), (1, 2, zt_istoreF 2), (2, 5, zt_ic 512), (5, 6, zt_istoreF 3), (6, 7, zt_iload 3), (7, 10, zt_if_le 42), (10, 11, zt_iload 2), (11, 12, zt_iload 3), (12, 13, zt_iadd), (13, 16, zt_ic 999), (16, 19, zt_icmp_gt 35), (19, 20, zt_aload 0), (20, 21, zt_iload 2), (21, 22, zt_iload 3), (22, 23, zt_iadd), (23, 24, zt_iload 1), (24, 25, zt_ic 0), (25, 28, zt_callVF mX11_leavesAt 3 19), (28, 31, zt_if_eq 35), (31, 32, zt_iload 2), (32, 33, zt_iload 3), (33, 34, zt_iadd), (34, 35, zt_istoreF 2), (35, 36, zt_iload 3), (36, 37, zt_ic 2), (37, 38, zt_idiv), (38, 39, zt_istoreF 3), (39, 42, zt_goto 6), (42, 43, zt_iload 2), (43, 44, zt_istoreF 3), (44, 45, zt_iload 3), (45, 48, zt_if_lt 66), (48, 49, zt_aload 0), (49, 50, zt_iload 3), (50, 51, zt_iload 1), (51, 52, zt_ic 1), (52, 55, zt_callVF mX11_leavesAt 3 19), (55, 58, zt_if_eq 60), (58, 59, zt_iload 3), (59, 60, zt_iret), (60, 63, zt_iincF 3 (-1)), (63, 66, zt_goto 44), (66, 67, zt_ic (-1)), (67, 68, zt_iret)]
theorem TX11_tillAtOnce_ok : ∀ i ∈ TX11_tillAtOnce, Ent mX11_tillAtOnce i := by
  refine List.forall_mem_cons.mpr ⟨ze_iconst (n := -1) (by decide +kernel) (by decide), ?_⟩
  refine List.forall_mem_cons.mpr ⟨ze_istoreF_n (k := 2) (by decide +kernel) rfl (by decide), ?_⟩
  refine List.forall_mem_cons.mpr ⟨ze_sipush (n := 512) (by decide +kernel) (by decide), ?_⟩
  refine List.forall_mem_cons.mpr ⟨ze_istoreF_n (k := 3) (by decide +kernel) rfl (by decide), ?_⟩
  refine List.forall_mem_cons.mpr ⟨ze_iload_n (k := 3) (by decide +kernel) rfl, ?_⟩
  refine List.forall_mem_cons.mpr ⟨ze_if_le (off := 35) (by decide +kernel) (by decide), ?_⟩
  refine List.forall_mem_cons.mpr ⟨ze_iload_n (k := 2) (by decide +kernel) rfl, ?_⟩
  refine List.forall_mem_cons.mpr ⟨ze_iload_n (k := 3) (by decide +kernel) rfl, ?_⟩
  refine List.forall_mem_cons.mpr ⟨ze_iadd (by decide +kernel), ?_⟩
  refine List.forall_mem_cons.mpr ⟨ze_sipush (n := 999) (by decide +kernel) (by decide), ?_⟩
  refine List.forall_mem_cons.mpr ⟨ze_icmp_gt (off := 19) (by decide +kernel) (by decide), ?_⟩
  refine List.forall_mem_cons.mpr ⟨ze_aload_n (k := 0) (by decide +kernel) rfl, ?_⟩
  refine List.forall_mem_cons.mpr ⟨ze_iload_n (k := 2) (by decide +kernel) rfl, ?_⟩
  refine List.forall_mem_cons.mpr ⟨ze_iload_n (k := 3) (by decide +kernel) rfl, ?_⟩
  refine List.forall_mem_cons.mpr ⟨ze_iadd (by decide +kernel), ?_⟩
  refine List.forall_mem_cons.mpr ⟨ze_iload_n (k := 1) (by decide +kernel) rfl, ?_⟩
  refine List.forall_mem_cons.mpr ⟨ze_iconst (n := 0) (by decide +kernel) (by decide), ?_⟩
  refine List.forall_mem_cons.mpr ⟨ze_callVF (idx := 356) (by decide +kernel) ml_X11_356 mv_X11_leavesAt rfl, ?_⟩
  refine List.forall_mem_cons.mpr ⟨ze_if_eq (off := 7) (by decide +kernel) (by decide), ?_⟩
  refine List.forall_mem_cons.mpr ⟨ze_iload_n (k := 2) (by decide +kernel) rfl, ?_⟩
  refine List.forall_mem_cons.mpr ⟨ze_iload_n (k := 3) (by decide +kernel) rfl, ?_⟩
  refine List.forall_mem_cons.mpr ⟨ze_iadd (by decide +kernel), ?_⟩
  refine List.forall_mem_cons.mpr ⟨ze_istoreF_n (k := 2) (by decide +kernel) rfl (by decide), ?_⟩
  refine List.forall_mem_cons.mpr ⟨ze_iload_n (k := 3) (by decide +kernel) rfl, ?_⟩
  refine List.forall_mem_cons.mpr ⟨ze_iconst (n := 2) (by decide +kernel) (by decide), ?_⟩
  refine List.forall_mem_cons.mpr ⟨ze_idiv (by decide +kernel), ?_⟩
  refine List.forall_mem_cons.mpr ⟨ze_istoreF_n (k := 3) (by decide +kernel) rfl (by decide), ?_⟩
  refine List.forall_mem_cons.mpr ⟨ze_goto (off := -33) (by decide +kernel) (by decide), ?_⟩
  refine List.forall_mem_cons.mpr ⟨ze_iload_n (k := 2) (by decide +kernel) rfl, ?_⟩
  refine List.forall_mem_cons.mpr ⟨ze_istoreF_n (k := 3) (by decide +kernel) rfl (by decide), ?_⟩
  refine List.forall_mem_cons.mpr ⟨ze_iload_n (k := 3) (by decide +kernel) rfl, ?_⟩
  refine List.forall_mem_cons.mpr ⟨ze_if_lt (off := 21) (by decide +kernel) (by decide), ?_⟩
  refine List.forall_mem_cons.mpr ⟨ze_aload_n (k := 0) (by decide +kernel) rfl, ?_⟩
  refine List.forall_mem_cons.mpr ⟨ze_iload_n (k := 3) (by decide +kernel) rfl, ?_⟩
  refine List.forall_mem_cons.mpr ⟨ze_iload_n (k := 1) (by decide +kernel) rfl, ?_⟩
  refine List.forall_mem_cons.mpr ⟨ze_iconst (n := 1) (by decide +kernel) (by decide), ?_⟩
  refine List.forall_mem_cons.mpr ⟨ze_callVF (idx := 356) (by decide +kernel) ml_X11_356 mv_X11_leavesAt rfl, ?_⟩
  refine List.forall_mem_cons.mpr ⟨ze_if_eq (off := 5) (by decide +kernel) (by decide), ?_⟩
  refine List.forall_mem_cons.mpr ⟨ze_iload_n (k := 3) (by decide +kernel) rfl, ?_⟩
  refine List.forall_mem_cons.mpr ⟨ze_iret (by decide +kernel) rfl, ?_⟩
  refine List.forall_mem_cons.mpr ⟨ze_iincF (n := -1) (by decide +kernel) (by decide) (by decide), ?_⟩
  refine List.forall_mem_cons.mpr ⟨ze_goto (off := -19) (by decide +kernel) (by decide), ?_⟩
  refine List.forall_mem_cons.mpr ⟨ze_iconst (n := -1) (by decide +kernel) (by decide), ?_⟩
  refine List.forall_mem_cons.mpr ⟨ze_iret (by decide +kernel) rfl, ?_⟩
  exact fun _ h => absurd h List.not_mem_nil
theorem vX11_tillAtOnce {l : Launch} {G : GT} {d : Nat} {av : List Value} {Q : Po} {σ : Mm} (cs : List (Nat × List Nat)) (k : Nat) (h : vc l G d mX11_tillAtOnce TX11_tillAtOnce Q cs k TX11_tillAtOnce (lv_args 0 av) [] σ) (hlen : (lg_sl av).length ≤ mX11_tillAtOnce.2.2.1 := by exact Nat.le_of_ble_eq_true rfl) : MW l G d mX11_tillAtOnce av σ Q := mw_vc TX11_tillAtOnce_ok mc_X11_tillAtOnce rfl hlen cs k rfl h
theorem wX11_tillAtOnce {l : Launch} {G : GT} {d : Nat} {Q : Po} {pc : Nat} {lv : Lv} {st : List Value} {σ : Mm} (cs : List (Nat × List Nat)) (k : Nat) (h : vc l G d mX11_tillAtOnce TX11_tillAtOnce Q cs k (drp TX11_tillAtOnce pc) lv st σ) (hpc : hdp (drp TX11_tillAtOnce pc) = pc := by rfl) : Wp l G d mX11_tillAtOnce pc lv st σ Q := wp_vc TX11_tillAtOnce_ok cs k hpc h
def TX11_leavesAt : List In := [(0, 1, zt_aload 0), (1, 4, zt_getL 19 1), (4, 5, zt_ic 0), (5, 6, zt_iald), (6, 8, zt_istoreF 4), (8, 11, zt_ic 1000), (11, 12, zt_iload 1), (12, 13, zt_iadd), (13, 15, zt_istoreF 5), (15, 17, zt_iload 5), (17, 20, zt_if_gt 22), (20, 21, zt_ic 0), (21, 22, zt_zret), (22, 23, zt_aload 0), (23, 26, zt_getL 19 8), (26, 29, zt_getL 16 2), (29, 31, zt_iload 4), (31, 32, zt_iald), (32, 34, zt_istoreF 6), (34, 35, zt_iload 3), (35, 38, zt_if_eq 53), (38, 40, zt_iload 6), (40, 41, zt_iload 2), (41, 43, zt_ic 10), (43, 44, zt_imul), (44, 46, zt_iload 5), (46, 47, zt_idiv), (47, 50, zt_icmp_ge 67), (50, 53, zt_goto 65), (53, 55, zt_iload 6), (55, 57, zt_iload 5), (57, 58, zt_imul), (58, 59, zt_iload 2), (59, 61, zt_ic 10), (61, 62, zt_imul), (62, 65, zt_icmp_ge 67), (65, 66, zt_ic 1), (66, 67, zt_zret), (67, 68, zt_aload 0), (68, 71, zt_getL 19 1), (71, 72, zt_ic 3), (72, 73, zt_iald), (73, 76, zt_if_gt 78), (76, 77, zt_ic 0), (77, 78, zt_zret), (78, 79, zt_aload 0), (79, 80, zt_aload 0), (80, 83, zt_getL 19 8), (83, 84, zt_iload 1), (84, 87, zt_callVF mX8_couponAt 1 16), (87, 88, zt_aload 0), (88, 91, zt_getL 19 1), (91, 92, zt_ic 3), (92, 93, zt_iald), (93, 94, zt_ic 1), (94, 95, zt_isub), (95, 96, zt_ic 0), (96, 99, zt_callVF mX11_costHere 3 19), (99, 100, zt_pop), (100, 101, zt_aload 0), (101, 102, zt_aload 0), (102, 105, zt_getL 19 8), (105, 108, zt_getL 16 3), (108, 109, zt_aload 0), (109, 112, zt_getL 19 8), (112, 115, zt_getL 16 3), (115, 118, zt_getL 15 0), (118, 121, zt_callVF mX11_weighedHere 2 19), (121, 123, zt_istoreF 7), (123, 124, zt_aload 0), (124, 127, zt_getL 19 8), (127, 129, zt_iload 4), (129, 132, zt_callVF mX8_renewalAt 1 16), (132, 134, zt_istoreF 8), (134, 135, zt_iload 3), (135, 138, zt_if_eq 167), (138, 140, zt_iload 8), (140, 142, zt_iload 7), (142, 144, zt_ic 10), (144, 145, zt_imul), (145, 147, zt_iload 5), (147, 148, zt_idiv), (148, 149, zt_iadd), (149, 150, zt_iload 2), (150, 152, zt_ic 10), (152, 153, zt_imul), (153, 155, zt_iload 5), (155, 156, zt_idiv), (156, 159, zt_icmp_ge 163), (159, 160, zt_ic 1), (160, 163, zt_goto 190), (163, 164, zt_ic 0), (164, 167, zt_goto 190), (167, 169, zt_iload 8), (169, 171, zt_iload 5), (171, 172, zt_imul), (172, 174, zt_iload 7), (174, 176, zt_ic 10), (176, 177, zt_imul), (177, 178, zt_iadd), (178, 179, zt_iload 2), (179, 181, zt_ic 10), (181, 182, zt_imul), (182, 185, zt_icmp_ge 189), (185, 186, zt_ic 1), (186, 189, zt_goto 190), (189, 190, zt_ic 0), (190, 191, zt_zret)]
theorem TX11_leavesAt_ok : ∀ i ∈ TX11_leavesAt, Ent mX11_leavesAt i := by
  refine List.forall_mem_cons.mpr ⟨ze_aload_n (k := 0) (by decide +kernel) rfl, ?_⟩
  refine List.forall_mem_cons.mpr ⟨ze_getL (by decide +kernel) fl_X11_17 rfl (by decide), ?_⟩
  refine List.forall_mem_cons.mpr ⟨ze_iconst (n := 0) (by decide +kernel) (by decide), ?_⟩
  refine List.forall_mem_cons.mpr ⟨ze_iald (by decide +kernel), ?_⟩
  refine List.forall_mem_cons.mpr ⟨ze_istoreF (by decide +kernel) (by decide), ?_⟩
  refine List.forall_mem_cons.mpr ⟨ze_sipush (n := 1000) (by decide +kernel) (by decide), ?_⟩
  refine List.forall_mem_cons.mpr ⟨ze_iload_n (k := 1) (by decide +kernel) rfl, ?_⟩
  refine List.forall_mem_cons.mpr ⟨ze_iadd (by decide +kernel), ?_⟩
  refine List.forall_mem_cons.mpr ⟨ze_istoreF (by decide +kernel) (by decide), ?_⟩
  refine List.forall_mem_cons.mpr ⟨ze_iload (by decide +kernel), ?_⟩
  refine List.forall_mem_cons.mpr ⟨ze_if_gt (off := 5) (by decide +kernel) (by decide), ?_⟩
  refine List.forall_mem_cons.mpr ⟨ze_iconst (n := 0) (by decide +kernel) (by decide), ?_⟩
  refine List.forall_mem_cons.mpr ⟨ze_zret (by decide +kernel) rfl, ?_⟩
  refine List.forall_mem_cons.mpr ⟨ze_aload_n (k := 0) (by decide +kernel) rfl, ?_⟩
  refine List.forall_mem_cons.mpr ⟨ze_getL (by decide +kernel) fl_X11_57 rfl (by decide), ?_⟩
  refine List.forall_mem_cons.mpr ⟨ze_getL (by decide +kernel) fl_X11_197 rfl (by decide), ?_⟩
  refine List.forall_mem_cons.mpr ⟨ze_iload (by decide +kernel), ?_⟩
  refine List.forall_mem_cons.mpr ⟨ze_iald (by decide +kernel), ?_⟩
  refine List.forall_mem_cons.mpr ⟨ze_istoreF (by decide +kernel) (by decide), ?_⟩
  refine List.forall_mem_cons.mpr ⟨ze_iload_n (k := 3) (by decide +kernel) rfl, ?_⟩
  refine List.forall_mem_cons.mpr ⟨ze_if_eq (off := 18) (by decide +kernel) (by decide), ?_⟩
  refine List.forall_mem_cons.mpr ⟨ze_iload (by decide +kernel), ?_⟩
  refine List.forall_mem_cons.mpr ⟨ze_iload_n (k := 2) (by decide +kernel) rfl, ?_⟩
  refine List.forall_mem_cons.mpr ⟨ze_bipush (n := 10) (by decide +kernel) (by decide), ?_⟩
  refine List.forall_mem_cons.mpr ⟨ze_imul (by decide +kernel), ?_⟩
  refine List.forall_mem_cons.mpr ⟨ze_iload (by decide +kernel), ?_⟩
  refine List.forall_mem_cons.mpr ⟨ze_idiv (by decide +kernel), ?_⟩
  refine List.forall_mem_cons.mpr ⟨ze_icmp_ge (off := 20) (by decide +kernel) (by decide), ?_⟩
  refine List.forall_mem_cons.mpr ⟨ze_goto (off := 15) (by decide +kernel) (by decide), ?_⟩
  refine List.forall_mem_cons.mpr ⟨ze_iload (by decide +kernel), ?_⟩
  refine List.forall_mem_cons.mpr ⟨ze_iload (by decide +kernel), ?_⟩
  refine List.forall_mem_cons.mpr ⟨ze_imul (by decide +kernel), ?_⟩
  refine List.forall_mem_cons.mpr ⟨ze_iload_n (k := 2) (by decide +kernel) rfl, ?_⟩
  refine List.forall_mem_cons.mpr ⟨ze_bipush (n := 10) (by decide +kernel) (by decide), ?_⟩
  refine List.forall_mem_cons.mpr ⟨ze_imul (by decide +kernel), ?_⟩
  refine List.forall_mem_cons.mpr ⟨ze_icmp_ge (off := 5) (by decide +kernel) (by decide), ?_⟩
  refine List.forall_mem_cons.mpr ⟨ze_iconst (n := 1) (by decide +kernel) (by decide), ?_⟩
  refine List.forall_mem_cons.mpr ⟨ze_zret (by decide +kernel) rfl, ?_⟩
  refine List.forall_mem_cons.mpr ⟨ze_aload_n (k := 0) (by decide +kernel) rfl, ?_⟩
  refine List.forall_mem_cons.mpr ⟨ze_getL (by decide +kernel) fl_X11_17 rfl (by decide), ?_⟩
  refine List.forall_mem_cons.mpr ⟨ze_iconst (n := 3) (by decide +kernel) (by decide), ?_⟩
  refine List.forall_mem_cons.mpr ⟨ze_iald (by decide +kernel), ?_⟩
  refine List.forall_mem_cons.mpr ⟨ze_if_gt (off := 5) (by decide +kernel) (by decide), ?_⟩
  refine List.forall_mem_cons.mpr ⟨ze_iconst (n := 0) (by decide +kernel) (by decide), ?_⟩
  refine List.forall_mem_cons.mpr ⟨ze_zret (by decide +kernel) rfl, ?_⟩
  refine List.forall_mem_cons.mpr ⟨ze_aload_n (k := 0) (by decide +kernel) rfl, ?_⟩
  refine List.forall_mem_cons.mpr ⟨ze_aload_n (k := 0) (by decide +kernel) rfl, ?_⟩
  refine List.forall_mem_cons.mpr ⟨ze_getL (by decide +kernel) fl_X11_57 rfl (by decide), ?_⟩
  refine List.forall_mem_cons.mpr ⟨ze_iload_n (k := 1) (by decide +kernel) rfl, ?_⟩
  refine List.forall_mem_cons.mpr ⟨ze_callVF (idx := 360) (by decide +kernel) ml_X11_360 mv_X8_couponAt rfl, ?_⟩
  refine List.forall_mem_cons.mpr ⟨ze_aload_n (k := 0) (by decide +kernel) rfl, ?_⟩
  refine List.forall_mem_cons.mpr ⟨ze_getL (by decide +kernel) fl_X11_17 rfl (by decide), ?_⟩
  refine List.forall_mem_cons.mpr ⟨ze_iconst (n := 3) (by decide +kernel) (by decide), ?_⟩
  refine List.forall_mem_cons.mpr ⟨ze_iald (by decide +kernel), ?_⟩
  refine List.forall_mem_cons.mpr ⟨ze_iconst (n := 1) (by decide +kernel) (by decide), ?_⟩
  refine List.forall_mem_cons.mpr ⟨ze_isub (by decide +kernel), ?_⟩
  refine List.forall_mem_cons.mpr ⟨ze_iconst (n := 0) (by decide +kernel) (by decide), ?_⟩
  refine List.forall_mem_cons.mpr ⟨ze_callVF (idx := 304) (by decide +kernel) ml_X11_304 mv_X11_costHere rfl, ?_⟩
  refine List.forall_mem_cons.mpr ⟨ze_pop (by decide +kernel), ?_⟩
  refine List.forall_mem_cons.mpr ⟨ze_aload_n (k := 0) (by decide +kernel) rfl, ?_⟩
  refine List.forall_mem_cons.mpr ⟨ze_aload_n (k := 0) (by decide +kernel) rfl, ?_⟩
  refine List.forall_mem_cons.mpr ⟨ze_getL (by decide +kernel) fl_X11_57 rfl (by decide), ?_⟩
  refine List.forall_mem_cons.mpr ⟨ze_getL (by decide +kernel) fl_X11_308 rfl (by decide), ?_⟩
  refine List.forall_mem_cons.mpr ⟨ze_aload_n (k := 0) (by decide +kernel) rfl, ?_⟩
  refine List.forall_mem_cons.mpr ⟨ze_getL (by decide +kernel) fl_X11_57 rfl (by decide), ?_⟩
  refine List.forall_mem_cons.mpr ⟨ze_getL (by decide +kernel) fl_X11_308 rfl (by decide), ?_⟩
  refine List.forall_mem_cons.mpr ⟨ze_getL (by decide +kernel) fl_X11_208 rfl (by decide), ?_⟩
  refine List.forall_mem_cons.mpr ⟨ze_callVF (idx := 331) (by decide +kernel) ml_X11_331 mv_X11_weighedHere rfl, ?_⟩
  refine List.forall_mem_cons.mpr ⟨ze_istoreF (by decide +kernel) (by decide), ?_⟩
  refine List.forall_mem_cons.mpr ⟨ze_aload_n (k := 0) (by decide +kernel) rfl, ?_⟩
  refine List.forall_mem_cons.mpr ⟨ze_getL (by decide +kernel) fl_X11_57 rfl (by decide), ?_⟩
  refine List.forall_mem_cons.mpr ⟨ze_iload (by decide +kernel), ?_⟩
  refine List.forall_mem_cons.mpr ⟨ze_callVF (idx := 363) (by decide +kernel) ml_X11_363 mv_X8_renewalAt rfl, ?_⟩
  refine List.forall_mem_cons.mpr ⟨ze_istoreF (by decide +kernel) (by decide), ?_⟩
  refine List.forall_mem_cons.mpr ⟨ze_iload_n (k := 3) (by decide +kernel) rfl, ?_⟩
  refine List.forall_mem_cons.mpr ⟨ze_if_eq (off := 32) (by decide +kernel) (by decide), ?_⟩
  refine List.forall_mem_cons.mpr ⟨ze_iload (by decide +kernel), ?_⟩
  refine List.forall_mem_cons.mpr ⟨ze_iload (by decide +kernel), ?_⟩
  refine List.forall_mem_cons.mpr ⟨ze_bipush (n := 10) (by decide +kernel) (by decide), ?_⟩
  refine List.forall_mem_cons.mpr ⟨ze_imul (by decide +kernel), ?_⟩
  refine List.forall_mem_cons.mpr ⟨ze_iload (by decide +kernel), ?_⟩
  refine List.forall_mem_cons.mpr ⟨ze_idiv (by decide +kernel), ?_⟩
  refine List.forall_mem_cons.mpr ⟨ze_iadd (by decide +kernel), ?_⟩
  refine List.forall_mem_cons.mpr ⟨ze_iload_n (k := 2) (by decide +kernel) rfl, ?_⟩
  refine List.forall_mem_cons.mpr ⟨ze_bipush (n := 10) (by decide +kernel) (by decide), ?_⟩
  refine List.forall_mem_cons.mpr ⟨ze_imul (by decide +kernel), ?_⟩
  refine List.forall_mem_cons.mpr ⟨ze_iload (by decide +kernel), ?_⟩
  refine List.forall_mem_cons.mpr ⟨ze_idiv (by decide +kernel), ?_⟩
  refine List.forall_mem_cons.mpr ⟨ze_icmp_ge (off := 7) (by decide +kernel) (by decide), ?_⟩
  refine List.forall_mem_cons.mpr ⟨ze_iconst (n := 1) (by decide +kernel) (by decide), ?_⟩
  refine List.forall_mem_cons.mpr ⟨ze_goto (off := 30) (by decide +kernel) (by decide), ?_⟩
  refine List.forall_mem_cons.mpr ⟨ze_iconst (n := 0) (by decide +kernel) (by decide), ?_⟩
  refine List.forall_mem_cons.mpr ⟨ze_goto (off := 26) (by decide +kernel) (by decide), ?_⟩
  refine List.forall_mem_cons.mpr ⟨ze_iload (by decide +kernel), ?_⟩
  refine List.forall_mem_cons.mpr ⟨ze_iload (by decide +kernel), ?_⟩
  refine List.forall_mem_cons.mpr ⟨ze_imul (by decide +kernel), ?_⟩
  refine List.forall_mem_cons.mpr ⟨ze_iload (by decide +kernel), ?_⟩
  refine List.forall_mem_cons.mpr ⟨ze_bipush (n := 10) (by decide +kernel) (by decide), ?_⟩
  refine List.forall_mem_cons.mpr ⟨ze_imul (by decide +kernel), ?_⟩
  refine List.forall_mem_cons.mpr ⟨ze_iadd (by decide +kernel), ?_⟩
  refine List.forall_mem_cons.mpr ⟨ze_iload_n (k := 2) (by decide +kernel) rfl, ?_⟩
  refine List.forall_mem_cons.mpr ⟨ze_bipush (n := 10) (by decide +kernel) (by decide), ?_⟩
  refine List.forall_mem_cons.mpr ⟨ze_imul (by decide +kernel), ?_⟩
  refine List.forall_mem_cons.mpr ⟨ze_icmp_ge (off := 7) (by decide +kernel) (by decide), ?_⟩
  refine List.forall_mem_cons.mpr ⟨ze_iconst (n := 1) (by decide +kernel) (by decide), ?_⟩
  refine List.forall_mem_cons.mpr ⟨ze_goto (off := 4) (by decide +kernel) (by decide), ?_⟩
  refine List.forall_mem_cons.mpr ⟨ze_iconst (n := 0) (by decide +kernel) (by decide), ?_⟩
  refine List.forall_mem_cons.mpr ⟨ze_zret (by decide +kernel) rfl, ?_⟩
  exact fun _ h => absurd h List.not_mem_nil
theorem vX11_leavesAt {l : Launch} {G : GT} {d : Nat} {av : List Value} {Q : Po} {σ : Mm} (cs : List (Nat × List Nat)) (k : Nat) (h : vc l G d mX11_leavesAt TX11_leavesAt Q cs k TX11_leavesAt (lv_args 0 av) [] σ) (hlen : (lg_sl av).length ≤ mX11_leavesAt.2.2.1 := by exact Nat.le_of_ble_eq_true rfl) : MW l G d mX11_leavesAt av σ Q := mw_vc TX11_leavesAt_ok mc_X11_leavesAt rfl hlen cs k rfl h
theorem wX11_leavesAt {l : Launch} {G : GT} {d : Nat} {Q : Po} {pc : Nat} {lv : Lv} {st : List Value} {σ : Mm} (cs : List (Nat × List Nat)) (k : Nat) (h : vc l G d mX11_leavesAt TX11_leavesAt Q cs k (drp TX11_leavesAt pc) lv st σ) (hpc : hdp (drp TX11_leavesAt pc) = pc := by rfl) : Wp l G d mX11_leavesAt pc lv st σ Q := wp_vc TX11_leavesAt_ok cs k hpc h
