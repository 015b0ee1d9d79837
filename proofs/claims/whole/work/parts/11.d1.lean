def TX11_edge : List In := [(0, 1, zt_aload 0), (1, 2, zt_iload 1), (2, 3, zt_ic 0), (3, 6, zt_callVF mX11_isNode 2 19), (6, 9, zt_if_ne 11), (9, 10, zt_ic (-1)), (10, 11, zt_iret), (11, 12, zt_aload 0), (12, 15, zt_getL 19 8), (15, 16, zt_aload 0), (16, 19, zt_getL 19 1), (19, 20, zt_ic 0), (20, 21, zt_ic 0), (21, 24, zt_callVF mX8_reckon 3 16), (24, 25, zt_astoreF 2), (25, 26, zt_ic 0), (26, 27, zt_istoreF 3), (27, 28, zt_iload 3), (28, 29, zt_iload 1), (29, 32, zt_icmp_gt 53), (32, 33, zt_aload 2), (33, 36, zt_getL 15 2), (36, 37, zt_iload 1), (37, 38, zt_iload 3), (38, 41, zt_callSF mX8_nodeOf 2), (41, 42, zt_iald), (42, 45, zt_if_ne 47), (45, 46, zt_iload 3), (46, 47, zt_iret), (47, 50, zt_iincF 3 1), (50, 53, zt_goto 27), (53, 54, zt_ic (-1)), (54, 55, zt_iret)]
theorem TX11_edge_ok : ∀ i ∈ TX11_edge, Ent mX11_edge i := by
  refine List.forall_mem_cons.mpr ⟨ze_aload_n (k := 0) (by decide +kernel) rfl, ?_⟩
  refine List.forall_mem_cons.mpr ⟨ze_iload_n (k := 1) (by decide +kernel) rfl, ?_⟩
  refine List.forall_mem_cons.mpr ⟨ze_iconst (n := 0) (by decide +kernel) (by decide), ?_⟩
  refine List.forall_mem_cons.mpr ⟨ze_callVF (idx := 165) (by decide +kernel) ml_X11_165 mv_X11_isNode rfl, ?_⟩
  refine List.forall_mem_cons.mpr ⟨ze_if_ne (off := 5) (by decide +kernel) (by decide), ?_⟩
  refine List.forall_mem_cons.mpr ⟨ze_iconst (n := -1) (by decide +kernel) (by decide), ?_⟩
  refine List.forall_mem_cons.mpr ⟨ze_iret (by decide +kernel) rfl, ?_⟩
  refine List.forall_mem_cons.mpr ⟨ze_aload_n (k := 0) (by decide +kernel) rfl, ?_⟩
  refine List.forall_mem_cons.mpr ⟨ze_getL (by decide +kernel) fl_X11_57 rfl (by decide), ?_⟩
  refine List.forall_mem_cons.mpr ⟨ze_aload_n (k := 0) (by decide +kernel) rfl, ?_⟩
  refine List.forall_mem_cons.mpr ⟨ze_getL (by decide +kernel) fl_X11_17 rfl (by decide), ?_⟩
  refine List.forall_mem_cons.mpr ⟨ze_iconst (n := 0) (by decide +kernel) (by decide), ?_⟩
  refine List.forall_mem_cons.mpr ⟨ze_iconst (n := 0) (by decide +kernel) (by decide), ?_⟩
  refine List.forall_mem_cons.mpr ⟨ze_callVF (idx := 204) (by decide +kernel) ml_X11_204 mv_X8_reckon rfl, ?_⟩
  refine List.forall_mem_cons.mpr ⟨ze_astoreF_n (k := 2) (by decide +kernel) rfl (by decide), ?_⟩
  refine List.forall_mem_cons.mpr ⟨ze_iconst (n := 0) (by decide +kernel) (by decide), ?_⟩
  refine List.forall_mem_cons.mpr ⟨ze_istoreF_n (k := 3) (by decide +kernel) rfl (by decide), ?_⟩
  refine List.forall_mem_cons.mpr ⟨ze_iload_n (k := 3) (by decide +kernel) rfl, ?_⟩
  refine List.forall_mem_cons.mpr ⟨ze_iload_n (k := 1) (by decide +kernel) rfl, ?_⟩
  refine List.forall_mem_cons.mpr ⟨ze_icmp_gt (off := 24) (by decide +kernel) (by decide), ?_⟩
  refine List.forall_mem_cons.mpr ⟨ze_aload_n (k := 2) (by decide +kernel) rfl, ?_⟩
  refine List.forall_mem_cons.mpr ⟨ze_getL (by decide +kernel) fl_X11_223 rfl (by decide), ?_⟩
  refine List.forall_mem_cons.mpr ⟨ze_iload_n (k := 1) (by decide +kernel) rfl, ?_⟩
  refine List.forall_mem_cons.mpr ⟨ze_iload_n (k := 3) (by decide +kernel) rfl, ?_⟩
  refine List.forall_mem_cons.mpr ⟨ze_callSF (idx := 145) (by decide +kernel) ml_X11_145 ms_X8_nodeOf, ?_⟩
  refine List.forall_mem_cons.mpr ⟨ze_iald (by decide +kernel), ?_⟩
  refine List.forall_mem_cons.mpr ⟨ze_if_ne (off := 5) (by decide +kernel) (by decide), ?_⟩
  refine List.forall_mem_cons.mpr ⟨ze_iload_n (k := 3) (by decide +kernel) rfl, ?_⟩
  refine List.forall_mem_cons.mpr ⟨ze_iret (by decide +kernel) rfl, ?_⟩
  refine List.forall_mem_cons.mpr ⟨ze_iincF (n := 1) (by decide +kernel) (by decide) (by decide), ?_⟩
  refine List.forall_mem_cons.mpr ⟨ze_goto (off := -23) (by decide +kernel) (by decide), ?_⟩
  refine List.forall_mem_cons.mpr ⟨ze_iconst (n := -1) (by decide +kernel) (by decide), ?_⟩
  refine List.forall_mem_cons.mpr ⟨ze_iret (by decide +kernel) rfl, ?_⟩
  exact fun _ h => absurd h List.not_mem_nil
theorem vX11_edge {l : Launch} {G : GT} {d : Nat} {av : List Value} {Q : Po} {σ : Mm} (cs : List (Nat × List Nat)) (k : Nat) (h : vc l G d mX11_edge TX11_edge Q cs k TX11_edge (lv_args 0 av) [] σ) (hlen : (lg_sl av).length ≤ mX11_edge.2.2.1 := by exact Nat.le_of_ble_eq_true rfl) : MW l G d mX11_edge av σ Q := mw_vc TX11_edge_ok mc_X11_edge rfl hlen cs k rfl h
theorem wX11_edge {l : Launch} {G : GT} {d : Nat} {Q : Po} {pc : Nat} {lv : Lv} {st : List Value} {σ : Mm} (cs : List (Nat × List Nat)) (k : Nat) (h : vc l G d mX11_edge TX11_edge Q cs k (drp TX11_edge pc) lv st σ) (hpc : hdp (drp TX11_edge pc) = pc := by rfl) : Wp l G d mX11_edge pc lv st σ Q := wp_vc TX11_edge_ok cs k hpc h
def TX11_fair : List In := [(0, 1, zt_aload 0), (1, 4, zt_callVF mX11_closed 0 19), (4, 7, zt_if_eq 9), (7, 8, zt_ic (-1)), (8, 9, zt_iret), (9, 10, zt_aload 0), (10, 13, zt_getL 19 8), (13, 14, zt_aload 0), (14, 17, zt_getL 19 1), (17, 18, zt_ic 0), (18, 19, zt_ic 0), (19, 22, zt_callVF mX8_reckon 3 16), (22, 23, zt_pop), (23, 24, zt_aload 0), (24, 27, zt_getL 19 8), (27, 30, zt_getL 16 0), (30, 31, zt_aload 0), (31, 34, zt_getL 19 1), (34, 35, zt_ic 0), (35, 36, zt_iald), (36, 37, zt_iald), (37, 38, zt_istoreF 1), (38, 39, zt_ic (-1)), (39, 40, zt_istoreF 2), (40, 43, zt_ic 512), (43, 44, zt_istoreF 3), (44, 45, zt_iload 3), (45, 48, zt_if_le 88), (48, 49, zt_iload 2), (49, 50, zt_iload 3), (50, 51, zt_iadd), (51, 53, zt_istoreF 4), (53, 55, zt_iload 4), (55, 58, zt_ic 999), (58, 61, zt_icmp_gt 81), (61, 62, zt_aload 0), (62, 64, zt_iload 4), (64, 65, zt_aload 0), (65, 68, zt_getL 19 1), (68, 69, zt_ic 3), (69, 70, zt_iald), (70, 71, zt_ic 0), (71, 74, zt_callVF mX11_costHere 3 19), (74, 75, zt_iload 1), (75, 78, zt_icmp_gt 81), (78, 80, zt_iload 4), (80, 81, zt_istoreF 2), (81, 82, zt_iload 3), (82, 83, zt_ic 2), (83, 84, zt_idiv), (84, 85, zt_istoreF 3), (85, 88, zt_goto 44), (88, 89, zt_iload 2), (89, 90, zt_iret)]
theorem TX11_fair_ok : ∀ i ∈ TX11_fair, Ent mX11_fair i := by
  refine List.forall_mem_cons.mpr ⟨ze_aload_n (k := 0) (by decide +kernel) rfl, ?_⟩
  refine List.forall_mem_cons.mpr ⟨ze_callVF (idx := 272) (by decide +kernel) ml_X11_272 mv_X11_closed rfl, ?_⟩
  refine List.forall_mem_cons.mpr ⟨ze_if_eq (off := 5) (by decide +kernel) (by decide), ?_⟩
  refine List.forall_mem_cons.mpr ⟨ze_iconst (n := -1) (by decide +kernel) (by decide), ?_⟩
  refine List.forall_mem_cons.mpr ⟨ze_iret (by decide +kernel) rfl, ?_⟩
  refine List.forall_mem_cons.mpr ⟨ze_aload_n (k := 0) (by decide +kernel) rfl, ?_⟩
  refine List.forall_mem_cons.mpr ⟨ze_getL (by decide +kernel) fl_X11_57 rfl (by decide), ?_⟩
  refine List.forall_mem_cons.mpr ⟨ze_aload_n (k := 0) (by decide +kernel) rfl, ?_⟩
  refine List.forall_mem_cons.mpr ⟨ze_getL (by decide +kernel) fl_X11_17 rfl (by decide), ?_⟩
  refine List.forall_mem_cons.mpr ⟨ze_iconst (n := 0) (by decide +kernel) (by decide), ?_⟩
  refine List.forall_mem_cons.mpr ⟨ze_iconst (n := 0) (by decide +kernel) (by decide), ?_⟩
  refine List.forall_mem_cons.mpr ⟨ze_callVF (idx := 204) (by decide +kernel) ml_X11_204 mv_X8_reckon rfl, ?_⟩
  refine List.forall_mem_cons.mpr ⟨ze_pop (by decide +kernel), ?_⟩
  refine List.forall_mem_cons.mpr ⟨ze_aload_n (k := 0) (by decide +kernel) rfl, ?_⟩
  refine List.forall_mem_cons.mpr ⟨ze_getL (by decide +kernel) fl_X11_57 rfl (by decide), ?_⟩
  refine List.forall_mem_cons.mpr ⟨ze_getL (by decide +kernel) fl_X11_194 rfl (by decide), ?_⟩
  refine List.forall_mem_cons.mpr ⟨ze_aload_n (k := 0) (by decide +kernel) rfl, ?_⟩
  refine List.forall_mem_cons.mpr ⟨ze_getL (by decide +kernel) fl_X11_17 rfl (by decide), ?_⟩
  refine List.forall_mem_cons.mpr ⟨ze_iconst (n := 0) (by decide +kernel) (by decide), ?_⟩
  refine List.forall_mem_cons.mpr ⟨ze_iald (by decide +kernel), ?_⟩
  refine List.forall_mem_cons.mpr ⟨ze_iald (by decide +kernel), ?_⟩
  refine List.forall_mem_cons.mpr ⟨ze_istoreF_n (k := 1) (by decide +kernel) rfl (by decide), ?_⟩
  refine List.forall_mem_cons.mpr ⟨ze_iconst (n := -1) (by decide +kernel) (by decide), ?_⟩
  refine List.forall_mem_cons.mpr ⟨ze_istoreF_n (k := 2) (by decide +kernel) rfl (by decide), ?_⟩
  refine List.forall_mem_cons.mpr ⟨ze_sipush (n := 512) (by decide +kernel) (by decide), ?_⟩
  refine List.forall_mem_cons.mpr ⟨ze_istoreF_n (k := 3) (by decide +kernel) rfl (by decide), ?_⟩
  refine List.forall_mem_cons.mpr ⟨ze_iload_n (k := 3) (by decide +kernel) rfl, ?_⟩
  refine List.forall_mem_cons.mpr ⟨ze_if_le (off := 43) (by decide +kernel) (by decide), ?_⟩
  refine List.forall_mem_cons.mpr ⟨ze_iload_n (k := 2) (by decide +kernel) rfl, ?_⟩
  refine List.forall_mem_cons.mpr ⟨ze_iload_n (k := 3) (by decide +kernel) rfl, ?_⟩
  refine List.forall_mem_cons.mpr ⟨ze_iadd (by decide +kernel), ?_⟩
  refine List.forall_mem_cons.mpr ⟨ze_istoreF (by decide +kernel) (by decide), ?_⟩
  refine List.forall_mem_cons.mpr ⟨ze_iload (by decide +kernel), ?_⟩
  refine List.forall_mem_cons.mpr ⟨ze_sipush (n := 999) (by decide +kernel) (by decide), ?_⟩
  refine List.forall_mem_cons.mpr ⟨ze_icmp_gt (off := 23) (by decide +kernel) (by decide), ?_⟩
  refine List.forall_mem_cons.mpr ⟨ze_aload_n (k := 0) (by decide +kernel) rfl, ?_⟩
  refine List.forall_mem_cons.mpr ⟨ze_iload (by decide +kernel), ?_⟩
  refine List.forall_mem_cons.mpr ⟨ze_aload_n (k := 0) (by decide +kernel) rfl, ?_⟩
  refine List.forall_mem_cons.mpr ⟨ze_getL (by decide +kernel) fl_X11_17 rfl (by decide), ?_⟩
  refine List.forall_mem_cons.mpr ⟨ze_iconst (n := 3) (by decide +kernel) (by decide), ?_⟩
  refine List.forall_mem_cons.mpr ⟨ze_iald (by decide +kernel), ?_⟩
  refine List.forall_mem_cons.mpr ⟨ze_iconst (n := 0) (by decide +kernel) (by decide), ?_⟩
  refine List.forall_mem_cons.mpr ⟨ze_callVF (idx := 304) (by decide +kernel) ml_X11_304 mv_X11_costHere rfl, ?_⟩
  refine List.forall_mem_cons.mpr ⟨ze_iload_n (k := 1) (by decide +kernel) rfl, ?_⟩
  refine List.forall_mem_cons.mpr ⟨ze_icmp_gt (off := 6) (by decide +kernel) (by decide), ?_⟩
  refine List.forall_mem_cons.mpr ⟨ze_iload (by decide +kernel), ?_⟩
  refine List.forall_mem_cons.mpr ⟨ze_istoreF_n (k := 2) (by decide +kernel) rfl (by decide), ?_⟩
  refine List.forall_mem_cons.mpr ⟨ze_iload_n (k := 3) (by decide +kernel) rfl, ?_⟩
  refine List.forall_mem_cons.mpr ⟨ze_iconst (n := 2) (by decide +kernel) (by decide), ?_⟩
  refine List.forall_mem_cons.mpr ⟨ze_idiv (by decide +kernel), ?_⟩
  refine List.forall_mem_cons.mpr ⟨ze_istoreF_n (k := 3) (by decide +kernel) rfl (by decide), ?_⟩
  refine List.forall_mem_cons.mpr ⟨ze_goto (off := -41) (by decide +kernel) (by decide), ?_⟩
  refine List.forall_mem_cons.mpr ⟨ze_iload_n (k := 2) (by decide +kernel) rfl, ?_⟩
  refine List.forall_mem_cons.mpr ⟨ze_iret (by decide +kernel) rfl, ?_⟩
  exact fun _ h => absurd h List.not_mem_nil
theorem vX11_fair {l : Launch} {G : GT} {d : Nat} {av : List Value} {Q : Po} {σ : Mm} (cs : List (Nat × List Nat)) (k : Nat) (h : vc l G d mX11_fair TX11_fair Q cs k TX11_fair (lv_args 0 av) [] σ) (hlen : (lg_sl av).length ≤ mX11_fair.2.2.1 := by exact Nat.le_of_ble_eq_true rfl) : MW l G d mX11_fair av σ Q := mw_vc TX11_fair_ok mc_X11_fair rfl hlen cs k rfl h
theorem wX11_fair {l : Launch} {G : GT} {d : Nat} {Q : Po} {pc : Nat} {lv : Lv} {st : List Value} {σ : Mm} (cs : List (Nat × List Nat)) (k : Nat) (h : vc l G d mX11_fair TX11_fair Q cs k (drp TX11_fair pc) lv st σ) (hpc : hdp (drp TX11_fair pc) = pc := by rfl) : Wp l G d mX11_fair pc lv st σ Q := wp_vc TX11_fair_ok cs k hpc h
def TX11_ending : List In := [(0, 1, zt_aload 0), (1, 4, zt_callVF mX11_closed 0 19), (4, 7, zt_if_ne 35), (7, 8, zt_aload 0), (8, 9, zt_iload 1), (9, 10, zt_ic 0), (10, 13, zt_callVF mX11_isNode 2 19), (13, 16, zt_if_eq 35), (16, 17, zt_iload 1), (17, 18, zt_aload 0), (18, 21, zt_getL 19 1), (21, 22, zt_ic 0), (22, 23, zt_iald), (23, 26, zt_icmp_lt 35), (26, 27, zt_iload 2), (27, 30, zt_if_lt 35), (30, 31, zt_iload 2), (31, 32, zt_ic 1), (32, 35, zt_icmp_le 37), (35, 36, zt_ic (-1)), (36, 37, zt_iret), (37, 38, zt_aload 0), (38, 41, zt_getL 19 8), (41, 42, zt_aload 0), (42, 45, zt_getL 19 1), (45, 46, zt_ic 0), (46, 47, zt_ic 0), (47, 50, zt_callVF mX8_reckon 3 16), (50, 51, zt_astoreF 3), (51, 52, zt_aload 0), (52, 55, zt_getL 19 12), (55, 56, zt_aload 0), (56, 59, zt_getL 19 1), (59, 60, zt_aload 3), (60, 63, zt_callVF mX1_pour 2 10), (63, 64, zt_aload 0), (64, 67, zt_getL 19 12), (67, 68, zt_aload 3), (68, 69, zt_iload 1), (69, 70, zt_iload 2), (70, 71, zt_ic 1), (71, 72, zt_iadd), (72, 75, zt_callVF mX1_stopped 3 10), (75, 76, zt_iret)]
theorem TX11_ending_ok : ∀ i ∈ TX11_ending, Ent mX11_ending i := by
  refine List.forall_mem_cons.mpr ⟨ze_aload_n (k := 0) (by decide +kernel) rfl, ?_⟩
  refine List.forall_mem_cons.mpr ⟨ze_callVF (idx := 272) (by decide +kernel) ml_X11_272 mv_X11_closed rfl, ?_⟩
  refine List.forall_mem_cons.mpr ⟨ze_if_ne (off := 31) (by decide +kernel) (by decide), ?_⟩
  refine List.forall_mem_cons.mpr ⟨ze_aload_n (k := 0) (by decide +kernel) rfl, ?_⟩
  refine List.forall_mem_cons.mpr ⟨ze_iload_n (k := 1) (by decide +kernel) rfl, ?_⟩
  refine List.forall_mem_cons.mpr ⟨ze_iconst (n := 0) (by decide +kernel) (by decide), ?_⟩
  refine List.forall_mem_cons.mpr ⟨ze_callVF (idx := 165) (by decide +kernel) ml_X11_165 mv_X11_isNode rfl, ?_⟩
  refine List.forall_mem_cons.mpr ⟨ze_if_eq (off := 22) (by decide +kernel) (by decide), ?_⟩
  refine List.forall_mem_cons.mpr ⟨ze_iload_n (k := 1) (by decide +kernel) rfl, ?_⟩
  refine List.forall_mem_cons.mpr ⟨ze_aload_n (k := 0) (by decide +kernel) rfl, ?_⟩
  refine List.forall_mem_cons.mpr ⟨ze_getL (by decide +kernel) fl_X11_17 rfl (by decide), ?_⟩
  refine List.forall_mem_cons.mpr ⟨ze_iconst (n := 0) (by decide +kernel) (by decide), ?_⟩
  refine List.forall_mem_cons.mpr ⟨ze_iald (by decide +kernel), ?_⟩
  refine List.forall_mem_cons.mpr ⟨ze_icmp_lt (off := 12) (by decide +kernel) (by decide), ?_⟩
  refine List.forall_mem_cons.mpr ⟨ze_iload_n (k := 2) (by decide +kernel) rfl, ?_⟩
  refine List.forall_mem_cons.mpr ⟨ze_if_lt (off := 8) (by decide +kernel) (by decide), ?_⟩
  refine List.forall_mem_cons.mpr ⟨ze_iload_n (k := 2) (by decide +kernel) rfl, ?_⟩
  refine List.forall_mem_cons.mpr ⟨ze_iconst (n := 1) (by decide +kernel) (by decide), ?_⟩
  refine List.forall_mem_cons.mpr ⟨ze_icmp_le (off := 5) (by decide +kernel) (by decide), ?_⟩
  refine List.forall_mem_cons.mpr ⟨ze_iconst (n := -1) (by decide +kernel) (by decide), ?_⟩
  refine List.forall_mem_cons.mpr ⟨ze_iret (by decide +kernel) rfl, ?_⟩
  refine List.forall_mem_cons.mpr ⟨ze_aload_n (k := 0) (by decide +kernel) rfl, ?_⟩
  refine List.forall_mem_cons.mpr ⟨ze_getL (by decide +kernel) fl_X11_57 rfl (by decide), ?_⟩
  refine List.forall_mem_cons.mpr ⟨ze_aload_n (k := 0) (by decide +kernel) rfl, ?_⟩
  refine List.forall_mem_cons.mpr ⟨ze_getL (by decide +kernel) fl_X11_17 rfl (by decide), ?_⟩
  refine List.forall_mem_cons.mpr ⟨ze_iconst (n := 0) (by decide +kernel) (by decide), ?_⟩
  refine List.forall_mem_cons.mpr ⟨ze_iconst (n := 0) (by decide +kernel) (by decide), ?_⟩
  refine List.forall_mem_cons.mpr ⟨ze_callVF (idx := 204) (by decide +kernel) ml_X11_204 mv_X8_reckon rfl, ?_⟩
  refine List.forall_mem_cons.mpr ⟨ze_astoreF_n (k := 3) (by decide +kernel) rfl (by decide), ?_⟩
  refine List.forall_mem_cons.mpr ⟨ze_aload_n (k := 0) (by decide +kernel) rfl, ?_⟩
  refine List.forall_mem_cons.mpr ⟨ze_getL (by decide +kernel) fl_X11_89 rfl (by decide), ?_⟩
  refine List.forall_mem_cons.mpr ⟨ze_aload_n (k := 0) (by decide +kernel) rfl, ?_⟩
  refine List.forall_mem_cons.mpr ⟨ze_getL (by decide +kernel) fl_X11_17 rfl (by decide), ?_⟩
  refine List.forall_mem_cons.mpr ⟨ze_aload_n (k := 3) (by decide +kernel) rfl, ?_⟩
  refine List.forall_mem_cons.mpr ⟨ze_callVF (idx := 288) (by decide +kernel) ml_X11_288 mv_X1_pour rfl, ?_⟩
  refine List.forall_mem_cons.mpr ⟨ze_aload_n (k := 0) (by decide +kernel) rfl, ?_⟩
  refine List.forall_mem_cons.mpr ⟨ze_getL (by decide +kernel) fl_X11_89 rfl (by decide), ?_⟩
  refine List.forall_mem_cons.mpr ⟨ze_aload_n (k := 3) (by decide +kernel) rfl, ?_⟩
  refine List.forall_mem_cons.mpr ⟨ze_iload_n (k := 1) (by decide +kernel) rfl, ?_⟩
  refine List.forall_mem_cons.mpr ⟨ze_iload_n (k := 2) (by decide +kernel) rfl, ?_⟩
  refine List.forall_mem_cons.mpr ⟨ze_iconst (n := 1) (by decide +kernel) (by decide), ?_⟩
  refine List.forall_mem_cons.mpr ⟨ze_iadd (by decide +kernel), ?_⟩
  refine List.forall_mem_cons.mpr ⟨ze_callVF (idx := 298) (by decide +kernel) ml_X11_298 mv_X1_stopped rfl, ?_⟩
  refine List.forall_mem_cons.mpr ⟨ze_iret (by decide +kernel) rfl, ?_⟩
  exact fun _ h => absurd h List.not_mem_nil
theorem vX11_ending {l : Launch} {G : GT} {d : Nat} {av : List Value} {Q : Po} {σ : Mm} (cs : List (Nat × List Nat)) (k : Nat) (h : vc l G d mX11_ending TX11_ending Q cs k TX11_ending (lv_args 0 av) [] σ) (hlen : (lg_sl av).length ≤ mX11_ending.2.2.1 := by exact Nat.le_of_ble_eq_true rfl) : MW l G d mX11_ending av σ Q := mw_vc TX11_ending_ok mc_X11_ending rfl hlen cs k rfl h
theorem wX11_ending {l : Launch} {G : GT} {d : Nat} {Q : Po} {pc : Nat} {lv : Lv} {st : List Value} {σ : Mm} (cs : List (Nat × List Nat)) (k : Nat) (h : vc l G d mX11_ending TX11_ending Q cs k (drp TX11_ending pc) lv st σ) (hpc : hdp (drp TX11_ending pc) = pc := by rfl) : Wp l G d mX11_ending pc lv st σ Q := wp_vc TX11_ending_ok cs k hpc h
def TX11_saved : List In := [(0, 1, zt_aload 0), (1, 4, zt_callVF mX11_closed 0 19), (4, 7, zt_if_eq 11), (7, 10, zt_lc (-1 : Int64)), (10, 11, zt_lret), (11, 12, zt_aload 0), (12, 15, zt_getL 19 8), (15, 16, zt_aload 0), (16, 19, zt_getL 19 1), (19, 20, zt_ic 0), (20, 21, zt_ic 0), (21, 24, zt_callVF mX8_reckon 3 16), (24, 27, zt_getL 15 0), (27, 28, zt_aload 0), (28, 31, zt_callVF mX11_here 0 19), (31, 32, zt_iald), (32, 33, zt_istoreF 1), (33, 34, zt_aload 0), (34, 35, zt_aload 0), (35, 38, zt_getL 19 1), (38, 39, zt_ic 2), (39, 40, zt_iald), (40, 41, zt_ic 0), (41, 42, zt_ic 0), (42, 45, zt_callVF mX11_costHere 3 19), (45, 46, zt_iload 1), (46, 47, zt_isub), (47, 48, zt_i2l), (48, 49, zt_lret)]
theorem TX11_saved_ok : ∀ i ∈ TX11_saved, Ent mX11_saved i := by
  refine List.forall_mem_cons.mpr ⟨ze_aload_n (k := 0) (by decide +kernel) rfl, ?_⟩
  refine List.forall_mem_cons.mpr ⟨ze_callVF (idx := 272) (by decide +kernel) ml_X11_272 mv_X11_closed rfl, ?_⟩
  refine List.forall_mem_cons.mpr ⟨ze_if_eq (off := 7) (by decide +kernel) (by decide), ?_⟩
  refine List.forall_mem_cons.mpr ⟨ze_ldc2 (i := 202) (by decide +kernel) kc_X11_202, ?_⟩
  refine List.forall_mem_cons.mpr ⟨ze_lret (by decide +kernel) rfl, ?_⟩
  refine List.forall_mem_cons.mpr ⟨ze_aload_n (k := 0) (by decide +kernel) rfl, ?_⟩
  refine List.forall_mem_cons.mpr ⟨ze_getL (by decide +kernel) fl_X11_57 rfl (by decide), ?_⟩
  refine List.forall_mem_cons.mpr ⟨ze_aload_n (k := 0) (by decide +kernel) rfl, ?_⟩
  refine List.forall_mem_cons.mpr ⟨ze_getL (by decide +kernel) fl_X11_17 rfl (by decide), ?_⟩
  refine List.forall_mem_cons.mpr ⟨ze_iconst (n := 0) (by decide +kernel) (by decide), ?_⟩
  refine List.forall_mem_cons.mpr ⟨ze_iconst (n := 0) (by decide +kernel) (by decide), ?_⟩
  refine List.forall_mem_cons.mpr ⟨ze_callVF (idx := 204) (by decide +kernel) ml_X11_204 mv_X8_reckon rfl, ?_⟩
  refine List.forall_mem_cons.mpr ⟨ze_getL (by decide +kernel) fl_X11_208 rfl (by decide), ?_⟩
  refine List.forall_mem_cons.mpr ⟨ze_aload_n (k := 0) (by decide +kernel) rfl, ?_⟩
  refine List.forall_mem_cons.mpr ⟨ze_callVF (idx := 301) (by decide +kernel) ml_X11_301 mv_X11_here rfl, ?_⟩
  refine List.forall_mem_cons.mpr ⟨ze_iald (by decide +kernel), ?_⟩
  refine List.forall_mem_cons.mpr ⟨ze_istoreF_n (k := 1) (by decide +kernel) rfl (by decide), ?_⟩
  refine List.forall_mem_cons.mpr ⟨ze_aload_n (k := 0) (by decide +kernel) rfl, ?_⟩
  refine List.forall_mem_cons.mpr ⟨ze_aload_n (k := 0) (by decide +kernel) rfl, ?_⟩
  refine List.forall_mem_cons.mpr ⟨ze_getL (by decide +kernel) fl_X11_17 rfl (by decide), ?_⟩
  refine List.forall_mem_cons.mpr ⟨ze_iconst (n := 2) (by decide +kernel) (by decide), ?_⟩
  refine List.forall_mem_cons.mpr ⟨ze_iald (by decide +kernel), ?_⟩
  refine List.forall_mem_cons.mpr ⟨ze_iconst (n := 0) (by decide +kernel) (by decide), ?_⟩
  refine List.forall_mem_cons.mpr ⟨ze_iconst (n := 0) (by decide +kernel) (by decide), ?_⟩
  refine List.forall_mem_cons.mpr ⟨ze_callVF (idx := 304) (by decide +kernel) ml_X11_304 mv_X11_costHere rfl, ?_⟩
  refine List.forall_mem_cons.mpr ⟨ze_iload_n (k := 1) (by decide +kernel) rfl, ?_⟩
  refine List.forall_mem_cons.mpr ⟨ze_isub (by decide +kernel), ?_⟩
  refine List.forall_mem_cons.mpr ⟨ze_i2l (by decide +kernel), ?_⟩
  refine List.forall_mem_cons.mpr ⟨ze_lret (by decide +kernel) rfl, ?_⟩
  exact fun _ h => absurd h List.not_mem_nil
theorem vX11_saved {l : Launch} {G : GT} {d : Nat} {av : List Value} {Q : Po} {σ : Mm} (cs : List (Nat × List Nat)) (k : Nat) (h : vc l G d mX11_saved TX11_saved Q cs k TX11_saved (lv_args 0 av) [] σ) (hlen : (lg_sl av).length ≤ mX11_saved.2.2.1 := by exact Nat.le_of_ble_eq_true rfl) : MW l G d mX11_saved av σ Q := mw_vc TX11_saved_ok mc_X11_saved rfl hlen cs k rfl h
theorem wX11_saved {l : Launch} {G : GT} {d : Nat} {Q : Po} {pc : Nat} {lv : Lv} {st : List Value} {σ : Mm} (cs : List (Nat × List Nat)) (k : Nat) (h : vc l G d mX11_saved TX11_saved Q cs k (drp TX11_saved pc) lv st σ) (hpc : hdp (drp TX11_saved pc) = pc := by rfl) : Wp l G d mX11_saved pc lv st σ Q := wp_vc TX11_saved_ok cs k hpc h
def TX11_sums : List In := [(0, 1, zt_aload 0), (1, 4, zt_callVF mX11_closed 0 19), (4, 7, zt_if_ne 16), (7, 8, zt_iload 1), (8, 11, zt_if_lt 16), (11, 12, zt_iload 1), (12, 13, zt_ic 1), (13, 16, zt_icmp_le 18), (16, 17, zt_ic (-1)), (17, 18, zt_iret), (18, 19, zt_aload 0), (19, 22, zt_getL 19 8), (22, 23, zt_aload 0), (23, 26, zt_getL 19 1), (26, 27, zt_ic 0), (27, 30, zt_callVF mX8_look 2 16), (30, 31, zt_ic 0), (31, 32, zt_istoreF 2), (32, 33, zt_aload 0), (33, 36, zt_getL 19 1), (36, 37, zt_ic 0), (37, 38, zt_iald), (38, 39, zt_ic 1), (39, 40, zt_iadd), (40, 41, zt_istoreF 3), (41, 42, zt_iload 3), (42, 43, zt_aload 0), (43, 46, zt_getL 19 0), (46, 47, zt_ic 1), (47, 48, zt_iald), (48, 51, zt_icmp_gt 90), (51, 52, zt_iload 2), (52, 53, zt_iload 1), (53, 56, zt_if_ne 73), (56, 57, zt_aload 0), (57, 60, zt_getL 19 8), (60, 61, zt_iload 3), (61, 62, zt_aload 0), (62, 65, zt_getL 19 1), (65, 66, zt_ic 2), (66, 67, zt_iald), (67, 70, zt_callVF mX8_interestOf 2 16), (70, 73, zt_goto 82), (73, 74, zt_aload 0), (74, 77, zt_getL 19 8), (77, 80, zt_getL 16 1), (80, 81, zt_iload 3), (81, 82, zt_iald), (82, 83, zt_iadd), (83, 84, zt_istoreF 2), (84, 87, zt_iincF 3 1), (87, 90, zt_goto 41), (90, 91, zt_iload 2), (91, 92, zt_iret)]
theorem TX11_sums_ok : ∀ i ∈ TX11_sums, Ent mX11_sums i := by
  refine List.forall_mem_cons.mpr ⟨ze_aload_n (k := 0) (by decide +kernel) rfl, ?_⟩
  refine List.forall_mem_cons.mpr ⟨ze_callVF (idx := 272) (by decide +kernel) ml_X11_272 mv_X11_closed rfl, ?_⟩
  refine List.forall_mem_cons.mpr ⟨ze_if_ne (off := 12) (by decide +kernel) (by decide), ?_⟩
  refine List.forall_mem_cons.mpr ⟨ze_iload_n (k := 1) (by decide +kernel) rfl, ?_⟩
  refine List.forall_mem_cons.mpr ⟨ze_if_lt (off := 8) (by decide +kernel) (by decide), ?_⟩
  refine List.forall_mem_cons.mpr ⟨ze_iload_n (k := 1) (by decide +kernel) rfl, ?_⟩
  refine List.forall_mem_cons.mpr ⟨ze_iconst (n := 1) (by decide +kernel) (by decide), ?_⟩
  refine List.forall_mem_cons.mpr ⟨ze_icmp_le (off := 5) (by decide +kernel) (by decide), ?_⟩
  refine List.forall_mem_cons.mpr ⟨ze_iconst (n := -1) (by decide +kernel) (by decide), ?_⟩
  refine List.forall_mem_cons.mpr ⟨ze_iret (by decide +kernel) rfl, ?_⟩
  refine List.forall_mem_cons.mpr ⟨ze_aload_n (k := 0) (by decide +kernel) rfl, ?_⟩
  refine List.forall_mem_cons.mpr ⟨ze_getL (by decide +kernel) fl_X11_57 rfl (by decide), ?_⟩
  refine List.forall_mem_cons.mpr ⟨ze_aload_n (k := 0) (by decide +kernel) rfl, ?_⟩
  refine List.forall_mem_cons.mpr ⟨ze_getL (by decide +kernel) fl_X11_17 rfl (by decide), ?_⟩
  refine List.forall_mem_cons.mpr ⟨ze_iconst (n := 0) (by decide +kernel) (by decide), ?_⟩
  refine List.forall_mem_cons.mpr ⟨ze_callVF (idx := 186) (by decide +kernel) ml_X11_186 mv_X8_look rfl, ?_⟩
  refine List.forall_mem_cons.mpr ⟨ze_iconst (n := 0) (by decide +kernel) (by decide), ?_⟩
  refine List.forall_mem_cons.mpr ⟨ze_istoreF_n (k := 2) (by decide +kernel) rfl (by decide), ?_⟩
  refine List.forall_mem_cons.mpr ⟨ze_aload_n (k := 0) (by decide +kernel) rfl, ?_⟩
  refine List.forall_mem_cons.mpr ⟨ze_getL (by decide +kernel) fl_X11_17 rfl (by decide), ?_⟩
  refine List.forall_mem_cons.mpr ⟨ze_iconst (n := 0) (by decide +kernel) (by decide), ?_⟩
  refine List.forall_mem_cons.mpr ⟨ze_iald (by decide +kernel), ?_⟩
  refine List.forall_mem_cons.mpr ⟨ze_iconst (n := 1) (by decide +kernel) (by decide), ?_⟩
  refine List.forall_mem_cons.mpr ⟨ze_iadd (by decide +kernel), ?_⟩
  refine List.forall_mem_cons.mpr ⟨ze_istoreF_n (k := 3) (by decide +kernel) rfl (by decide), ?_⟩
  refine List.forall_mem_cons.mpr ⟨ze_iload_n (k := 3) (by decide +kernel) rfl, ?_⟩
  refine List.forall_mem_cons.mpr ⟨ze_aload_n (k := 0) (by decide +kernel) rfl, ?_⟩
  refine List.forall_mem_cons.mpr ⟨ze_getL (by decide +kernel) fl_X11_9 rfl (by decide), ?_⟩
  refine List.forall_mem_cons.mpr ⟨ze_iconst (n := 1) (by decide +kernel) (by decide), ?_⟩
  refine List.forall_mem_cons.mpr ⟨ze_iald (by decide +kernel), ?_⟩
  refine List.forall_mem_cons.mpr ⟨ze_icmp_gt (off := 42) (by decide +kernel) (by decide), ?_⟩
  refine List.forall_mem_cons.mpr ⟨ze_iload_n (k := 2) (by decide +kernel) rfl, ?_⟩
  refine List.forall_mem_cons.mpr ⟨ze_iload_n (k := 1) (by decide +kernel) rfl, ?_⟩
  refine List.forall_mem_cons.mpr ⟨ze_if_ne (off := 20) (by decide +kernel) (by decide), ?_⟩
  refine List.forall_mem_cons.mpr ⟨ze_aload_n (k := 0) (by decide +kernel) rfl, ?_⟩
  refine List.forall_mem_cons.mpr ⟨ze_getL (by decide +kernel) fl_X11_57 rfl (by decide), ?_⟩
  refine List.forall_mem_cons.mpr ⟨ze_iload_n (k := 3) (by decide +kernel) rfl, ?_⟩
  refine List.forall_mem_cons.mpr ⟨ze_aload_n (k := 0) (by decide +kernel) rfl, ?_⟩
  refine List.forall_mem_cons.mpr ⟨ze_getL (by decide +kernel) fl_X11_17 rfl (by decide), ?_⟩
  refine List.forall_mem_cons.mpr ⟨ze_iconst (n := 2) (by decide +kernel) (by decide), ?_⟩
  refine List.forall_mem_cons.mpr ⟨ze_iald (by decide +kernel), ?_⟩
  refine List.forall_mem_cons.mpr ⟨ze_callVF (idx := 191) (by decide +kernel) ml_X11_191 mv_X8_interestOf rfl, ?_⟩
  refine List.forall_mem_cons.mpr ⟨ze_goto (off := 12) (by decide +kernel) (by decide), ?_⟩
  refine List.forall_mem_cons.mpr ⟨ze_aload_n (k := 0) (by decide +kernel) rfl, ?_⟩
  refine List.forall_mem_cons.mpr ⟨ze_getL (by decide +kernel) fl_X11_57 rfl (by decide), ?_⟩
  refine List.forall_mem_cons.mpr ⟨ze_getL (by decide +kernel) fl_X11_189 rfl (by decide), ?_⟩
  refine List.forall_mem_cons.mpr ⟨ze_iload_n (k := 3) (by decide +kernel) rfl, ?_⟩
  refine List.forall_mem_cons.mpr ⟨ze_iald (by decide +kernel), ?_⟩
  refine List.forall_mem_cons.mpr ⟨ze_iadd (by decide +kernel), ?_⟩
  refine List.forall_mem_cons.mpr ⟨ze_istoreF_n (k := 2) (by decide +kernel) rfl (by decide), ?_⟩
  refine List.forall_mem_cons.mpr ⟨ze_iincF (n := 1) (by decide +kernel) (by decide) (by decide), ?_⟩
  refine List.forall_mem_cons.mpr ⟨ze_goto (off := -46) (by decide +kernel) (by decide), ?_⟩
  refine List.forall_mem_cons.mpr ⟨ze_iload_n (k := 2) (by decide +kernel) rfl, ?_⟩
  refine List.forall_mem_cons.mpr ⟨ze_iret (by decide +kernel) rfl, ?_⟩
  exact fun _ h => absurd h List.not_mem_nil
theorem vX11_sums {l : Launch} {G : GT} {d : Nat} {av : List Value} {Q : Po} {σ : Mm} (cs : List (Nat × List Nat)) (k : Nat) (h : vc l G d mX11_sums TX11_sums Q cs k TX11_sums (lv_args 0 av) [] σ) (hlen : (lg_sl av).length ≤ mX11_sums.2.2.1 := by exact Nat.le_of_ble_eq_true rfl) : MW l G d mX11_sums av σ Q := mw_vc TX11_sums_ok mc_X11_sums rfl hlen cs k rfl h
theorem wX11_sums {l : Launch} {G : GT} {d : Nat} {Q : Po} {pc : Nat} {lv : Lv} {st : List Value} {σ : Mm} (cs : List (Nat × List Nat)) (k : Nat) (h : vc l G d mX11_sums TX11_sums Q cs k (drp TX11_sums pc) lv st σ) (hpc : hdp (drp TX11_sums pc) = pc := by rfl) : Wp l G d mX11_sums pc lv st σ Q := wp_vc TX11_sums_ok cs k hpc h
def TX11_deed : List In := [(0, 1, zt_aload 0), (1, 2, zt_iload 1), (2, 3, zt_iload 2), (3, 6, zt_callVF mX11_isNode 2 19), (6, 9, zt_if_eq 21), (9, 10, zt_aload 0), (10, 13, zt_getL 19 1), (13, 14, zt_iload 1), (14, 15, zt_iload 2), (15, 18, zt_callSF mX0_deedOf 3), (18, 21, zt_goto 22), (21, 22, zt_ic (-1)), (22, 23, zt_iret)]
theorem TX11_deed_ok : ∀ i ∈ TX11_deed, Ent mX11_deed i := by
  refine List.forall_mem_cons.mpr ⟨ze_aload_n (k := 0) (by decide +kernel) rfl, ?_⟩
  refine List.forall_mem_cons.mpr ⟨ze_iload_n (k := 1) (by decide +kernel) rfl, ?_⟩
  refine List.forall_mem_cons.mpr ⟨ze_iload_n (k := 2) (by decide +kernel) rfl, ?_⟩
  refine List.forall_mem_cons.mpr ⟨ze_callVF (idx := 165) (by decide +kernel) ml_X11_165 mv_X11_isNode rfl, ?_⟩
  refine List.forall_mem_cons.mpr ⟨ze_if_eq (off := 15) (by decide +kernel) (by decide), ?_⟩
  refine List.forall_mem_cons.mpr ⟨ze_aload_n (k := 0) (by decide +kernel) rfl, ?_⟩
  refine List.forall_mem_cons.mpr ⟨ze_getL (by decide +kernel) fl_X11_17 rfl (by decide), ?_⟩
  refine List.forall_mem_cons.mpr ⟨ze_iload_n (k := 1) (by decide +kernel) rfl, ?_⟩
  refine List.forall_mem_cons.mpr ⟨ze_iload_n (k := 2) (by decide +kernel) rfl, ?_⟩
  refine List.forall_mem_cons.mpr ⟨ze_callSF (idx := 175) (by decide +kernel) ml_X11_175 ms_X0_deedOf, ?_⟩
  refine List.forall_mem_cons.mpr ⟨ze_goto (off := 4) (by decide +kernel) (by decide), ?_⟩
  refine List.forall_mem_cons.mpr ⟨ze_iconst (n := -1) (by decide +kernel) (by decide), ?_⟩
  refine List.forall_mem_cons.mpr ⟨ze_iret (by decide +kernel) rfl, ?_⟩
  exact fun _ h => absurd h List.not_mem_nil
theorem vX11_deed {l : Launch} {G : GT} {d : Nat} {av : List Value} {Q : Po} {σ : Mm} (cs : List (Nat × List Nat)) (k : Nat) (h : vc l G d mX11_deed TX11_deed Q cs k TX11_deed (lv_args 0 av) [] σ) (hlen : (lg_sl av).length ≤ mX11_deed.2.2.1 := by exact Nat.le_of_ble_eq_true rfl) : MW l G d mX11_deed av σ Q := mw_vc TX11_deed_ok mc_X11_deed rfl hlen cs k rfl h
theorem wX11_deed {l : Launch} {G : GT} {d : Nat} {Q : Po} {pc : Nat} {lv : Lv} {st : List Value} {σ : Mm} (cs : List (Nat × List Nat)) (k : Nat) (h : vc l G d mX11_deed TX11_deed Q cs k (drp TX11_deed pc) lv st σ) (hpc : hdp (drp TX11_deed pc) = pc := by rfl) : Wp l G d mX11_deed pc lv st σ Q := wp_vc TX11_deed_ok cs k hpc h
def TX11_byPolicy : List In := [(0, 1, zt_aload 0), (1, 2, zt_iload 1), (2, 3, zt_iload 2), (3, 6, zt_callVF mX11_isNode 2 19), (6, 9, zt_if_eq 35), (9, 10, zt_aload 0), (10, 13, zt_getL 19 8), (13, 14, zt_aload 0), (14, 17, zt_getL 19 1), (17, 18, zt_ic 0), (18, 19, zt_ic 1), (19, 22, zt_callVF mX8_reckon 3 16), (22, 25, zt_getL 15 0), (25, 26, zt_iload 1), (26, 27, zt_iload 2), (27, 30, zt_callSF mX8_nodeOf 2), (30, 31, zt_iald), (31, 32, zt_i2l), (32, 35, zt_goto 38), (35, 38, zt_lc (-1 : Int64)), (38, 39, zt_lret)]
theorem TX11_byPolicy_ok : ∀ i ∈ TX11_byPolicy, Ent mX11_byPolicy i := by
  refine List.forall_mem_cons.mpr ⟨ze_aload_n (k := 0) (by decide +kernel) rfl, ?_⟩
  refine List.forall_mem_cons.mpr ⟨ze_iload_n (k := 1) (by decide +kernel) rfl, ?_⟩
  refine List.forall_mem_cons.mpr ⟨ze_iload_n (k := 2) (by decide +kernel) rfl, ?_⟩
  refine List.forall_mem_cons.mpr ⟨ze_callVF (idx := 165) (by decide +kernel) ml_X11_165 mv_X11_isNode rfl, ?_⟩
  refine List.forall_mem_cons.mpr ⟨ze_if_eq (off := 29) (by decide +kernel) (by decide), ?_⟩
  refine List.forall_mem_cons.mpr ⟨ze_aload_n (k := 0) (by decide +kernel) rfl, ?_⟩
  refine List.forall_mem_cons.mpr ⟨ze_getL (by decide +kernel) fl_X11_57 rfl (by decide), ?_⟩
  refine List.forall_mem_cons.mpr ⟨ze_aload_n (k := 0) (by decide +kernel) rfl, ?_⟩
  refine List.forall_mem_cons.mpr ⟨ze_getL (by decide +kernel) fl_X11_17 rfl (by decide), ?_⟩
  refine List.forall_mem_cons.mpr ⟨ze_iconst (n := 0) (by decide +kernel) (by decide), ?_⟩
  refine List.forall_mem_cons.mpr ⟨ze_iconst (n := 1) (by decide +kernel) (by decide), ?_⟩
  refine List.forall_mem_cons.mpr ⟨ze_callVF (idx := 204) (by decide +kernel) ml_X11_204 mv_X8_reckon rfl, ?_⟩
  refine List.forall_mem_cons.mpr ⟨ze_getL (by decide +kernel) fl_X11_208 rfl (by decide), ?_⟩
  refine List.forall_mem_cons.mpr ⟨ze_iload_n (k := 1) (by decide +kernel) rfl, ?_⟩
  refine List.forall_mem_cons.mpr ⟨ze_iload_n (k := 2) (by decide +kernel) rfl, ?_⟩
  refine List.forall_mem_cons.mpr ⟨ze_callSF (idx := 145) (by decide +kernel) ml_X11_145 ms_X8_nodeOf, ?_⟩
  refine List.forall_mem_cons.mpr ⟨ze_iald (by decide +kernel), ?_⟩
  refine List.forall_mem_cons.mpr ⟨ze_i2l (by decide +kernel), ?_⟩
  refine List.forall_mem_cons.mpr ⟨ze_goto (off := 6) (by decide +kernel) (by decide), ?_⟩
  refine List.forall_mem_cons.mpr ⟨ze_ldc2 (i := 202) (by decide +kernel) kc_X11_202, ?_⟩
  refine List.forall_mem_cons.mpr ⟨ze_lret (by decide +kernel) rfl, ?_⟩
  exact fun _ h => absurd h List.not_mem_nil
theorem vX11_byPolicy {l : Launch} {G : GT} {d : Nat} {av : List Value} {Q : Po} {σ : Mm} (cs : List (Nat × List Nat)) (k : Nat) (h : vc l G d mX11_byPolicy TX11_byPolicy Q cs k TX11_byPolicy (lv_args 0 av) [] σ) (hlen : (lg_sl av).length ≤ mX11_byPolicy.2.2.1 := by exact Nat.le_of_ble_eq_true rfl) : MW l G d mX11_byPolicy av σ Q := mw_vc TX11_byPolicy_ok mc_X11_byPolicy rfl hlen cs k rfl h
theorem wX11_byPolicy {l : Launch} {G : GT} {d : Nat} {Q : Po} {pc : Nat} {lv : Lv} {st : List Value} {σ : Mm} (cs : List (Nat × List Nat)) (k : Nat) (h : vc l G d mX11_byPolicy TX11_byPolicy Q cs k (drp TX11_byPolicy pc) lv st σ) (hpc : hdp (drp TX11_byPolicy pc) = pc := by rfl) : Wp l G d mX11_byPolicy pc lv st σ Q := wp_vc TX11_byPolicy_ok cs k hpc h
def TX11_regret : List In := [(0, 1, zt_aload 0), (1, 4, zt_callVF mX11_closed 0 19), (4, 7, zt_if_eq 11), (7, 10, zt_lc (-1 : Int64)), (10, 11, zt_lret), (11, 12, zt_aload 0), (12, 15, zt_getL 19 8), (15, 16, zt_aload 0), (16, 19, zt_getL 19 1), (19, 20, zt_ic 0), (20, 21, zt_ic 0), (21, 24, zt_callVF mX8_reckon 3 16), (24, 27, zt_getL 15 0), (27, 28, zt_aload 0), (28, 31, zt_callVF mX11_here 0 19), (31, 32, zt_iald), (32, 33, zt_istoreF 1), (33, 34, zt_aload 0), (34, 37, zt_getL 19 8), (37, 38, zt_aload 0), (38, 41, zt_getL 19 1), (41, 42, zt_ic 0), (42, 43, zt_ic 1), (43, 46, zt_callVF mX8_reckon 3 16), (46, 49, zt_getL 15 0), (49, 50, zt_aload 0), (50, 53, zt_callVF mX11_here 0 19), (53, 54, zt_iald), (54, 55, zt_iload 1), (55, 56, zt_isub), (56, 57, zt_i2l), (57, 58, zt_lret)]
theorem TX11_regret_ok : ∀ i ∈ TX11_regret, Ent mX11_regret i := by
  refine List.forall_mem_cons.mpr ⟨ze_aload_n (k := 0) (by decide +kernel) rfl, ?_⟩
  refine List.forall_mem_cons.mpr ⟨ze_callVF (idx := 272) (by decide +kernel) ml_X11_272 mv_X11_closed rfl, ?_⟩
  refine List.forall_mem_cons.mpr ⟨ze_if_eq (off := 7) (by decide +kernel) (by decide), ?_⟩
  refine List.forall_mem_cons.mpr ⟨ze_ldc2 (i := 202) (by decide +kernel) kc_X11_202, ?_⟩
  refine List.forall_mem_cons.mpr ⟨ze_lret (by decide +kernel) rfl, ?_⟩
  refine List.forall_mem_cons.mpr ⟨ze_aload_n (k := 0) (by decide +kernel) rfl, ?_⟩
  refine List.forall_mem_cons.mpr ⟨ze_getL (by decide +kernel) fl_X11_57 rfl (by decide), ?_⟩
  refine List.forall_mem_cons.mpr ⟨ze_aload_n (k := 0) (by decide +kernel) rfl, ?_⟩
  refine List.forall_mem_cons.mpr ⟨ze_getL (by decide +kernel) fl_X11_17 rfl (by decide), ?_⟩
  refine List.forall_mem_cons.mpr ⟨ze_iconst (n := 0) (by decide +kernel) (by decide), ?_⟩
  refine List.forall_mem_cons.mpr ⟨ze_iconst (n := 0) (by decide +kernel) (by decide), ?_⟩
  refine List.forall_mem_cons.mpr ⟨ze_callVF (idx := 204) (by decide +kernel) ml_X11_204 mv_X8_reckon rfl, ?_⟩
  refine List.forall_mem_cons.mpr ⟨ze_getL (by decide +kernel) fl_X11_208 rfl (by decide), ?_⟩
  refine List.forall_mem_cons.mpr ⟨ze_aload_n (k := 0) (by decide +kernel) rfl, ?_⟩
  refine List.forall_mem_cons.mpr ⟨ze_callVF (idx := 301) (by decide +kernel) ml_X11_301 mv_X11_here rfl, ?_⟩
  refine List.forall_mem_cons.mpr ⟨ze_iald (by decide +kernel), ?_⟩
  refine List.forall_mem_cons.mpr ⟨ze_istoreF_n (k := 1) (by decide +kernel) rfl (by decide), ?_⟩
  refine List.forall_mem_cons.mpr ⟨ze_aload_n (k := 0) (by decide +kernel) rfl, ?_⟩
  refine List.forall_mem_cons.mpr ⟨ze_getL (by decide +kernel) fl_X11_57 rfl (by decide), ?_⟩
  refine List.forall_mem_cons.mpr ⟨ze_aload_n (k := 0) (by decide +kernel) rfl, ?_⟩
  refine List.forall_mem_cons.mpr ⟨ze_getL (by decide +kernel) fl_X11_17 rfl (by decide), ?_⟩
  refine List.forall_mem_cons.mpr ⟨ze_iconst (n := 0) (by decide +kernel) (by decide), ?_⟩
  refine List.forall_mem_cons.mpr ⟨ze_iconst (n := 1) (by decide +kernel) (by decide), ?_⟩
  refine List.forall_mem_cons.mpr ⟨ze_callVF (idx := 204) (by decide +kernel) ml_X11_204 mv_X8_reckon rfl, ?_⟩
  refine List.forall_mem_cons.mpr ⟨ze_getL (by decide +kernel) fl_X11_208 rfl (by decide), ?_⟩
  refine List.forall_mem_cons.mpr ⟨ze_aload_n (k := 0) (by decide +kernel) rfl, ?_⟩
  refine List.forall_mem_cons.mpr ⟨ze_callVF (idx := 301) (by decide +kernel) ml_X11_301 mv_X11_here rfl, ?_⟩
  refine List.forall_mem_cons.mpr ⟨ze_iald (by decide +kernel), ?_⟩
  refine List.forall_mem_cons.mpr ⟨ze_iload_n (k := 1) (by decide +kernel) rfl, ?_⟩
  refine List.forall_mem_cons.mpr ⟨ze_isub (by decide +kernel), ?_⟩
  refine List.forall_mem_cons.mpr ⟨ze_i2l (by decide +kernel), ?_⟩
  refine List.forall_mem_cons.mpr ⟨ze_lret (by decide +kernel) rfl, ?_⟩
  exact fun _ h => absurd h List.not_mem_nil
theorem vX11_regret {l : Launch} {G : GT} {d : Nat} {av : List Value} {Q : Po} {σ : Mm} (cs : List (Nat × List Nat)) (k : Nat) (h : vc l G d mX11_regret TX11_regret Q cs k TX11_regret (lv_args 0 av) [] σ) (hlen : (lg_sl av).length ≤ mX11_regret.2.2.1 := by exact Nat.le_of_ble_eq_true rfl) : MW l G d mX11_regret av σ Q := mw_vc TX11_regret_ok mc_X11_regret rfl hlen cs k rfl h
theorem wX11_regret {l : Launch} {G : GT} {d : Nat} {Q : Po} {pc : Nat} {lv : Lv} {st : List Value} {σ : Mm} (cs : List (Nat × List Nat)) (k : Nat) (h : vc l G d mX11_regret TX11_regret Q cs k (drp TX11_regret pc) lv st σ) (hpc : hdp (drp TX11_regret pc) = pc := by rfl) : Wp l G d mX11_regret pc lv st σ Q := wp_vc TX11_regret_ok cs k hpc h
def TX11_strays : List In := [(0, 1, zt_aload 0), (1, 4, zt_callVF mX11_closed 0 19), (4, 7, zt_if_ne 16), (7, 8, zt_iload 1), (8, 11, zt_if_lt 16), (11, 12, zt_iload 1), (12, 13, zt_ic 2), (13, 16, zt_icmp_le 18), (16, 17, zt_ic (-1)), (17, 18, zt_iret), (18, 19, zt_aload 0), (19, 22, zt_getL 19 8), (22, 23, zt_aload 0), (23, 26, zt_getL 19 1), (26, 27, zt_ic 0), (27, 28, zt_ic 0), (28, 31, zt_callVF mX8_reckon 3 16), (31, 32, zt_astoreF 2), (32, 33, zt_aload 0), (33, 36, zt_getL 19 8), (36, 37, zt_aload 0), (37, 40, zt_getL 19 1), (40, 41, zt_ic 0), (41, 42, zt_ic 1), (42, 45, zt_callVF mX8_reckon 3 16), (45, 46, zt_astoreF 3), (46, 47, zt_aload 0), (47, 50, zt_getL 19 1), (50, 51, zt_ic 0), (51, 52, zt_iald), (52, 54, zt_istoreF 4), (54, 55, zt_aload 0), (55, 58, zt_getL 19 1), (58, 59, zt_ic 1), (59, 60, zt_iald), (60, 62, zt_istoreF 5), (62, 63, zt_ic 0), (63, 65, zt_istoreF 6), (65, 67, zt_iload 4), (67, 69, zt_istoreF 7), (69, 71, zt_iload 7), (71, 72, zt_aload 0), (72, 75, zt_getL 19 0), (75, 76, zt_ic 1), (76, 77, zt_iald), (77, 80, zt_icmp_ge 155), (80, 82, zt_iload 5), (82, 84, zt_istoreF 8), (84, 86, zt_iload 8), (86, 88, zt_iload 5), (88, 90, zt_iload 7), (90, 91, zt_iadd), (91, 93, zt_iload 4), (93, 94, zt_isub), (94, 97, zt_icmp_gt 149), (97, 99, zt_iload 7), (99, 101, zt_iload 8), (101, 104, zt_callSF mX8_nodeOf 2), (104, 106, zt_istoreF 9), (106, 107, zt_aload 2), (107, 110, zt_getL 15 2), (110, 112, zt_iload 9), (112, 113, zt_iald), (113, 114, zt_aload 3), (114, 117, zt_getL 15 2), (117, 119, zt_iload 9), (119, 120, zt_iald), (120, 123, zt_icmp_eq 143), (123, 124, zt_iload 1), (124, 127, zt_if_le 140), (127, 128, zt_iload 1), (128, 129, zt_ic 1), (129, 132, zt_icmp_ne 137), (132, 134, zt_iload 7), (134, 137, zt_goto 139), (137, 139, zt_iload 8), (139, 140, zt_iret), (140, 143, zt_iincF 6 1), (143, 146, zt_iincF 8 1), (146, 149, zt_goto 84), (149, 152, zt_iincF 7 1), (152, 155, zt_goto 69), (155, 156, zt_iload 1), (156, 159, zt_if_ne 164), (159, 161, zt_iload 6), (161, 164, zt_goto 165), (164, 165, zt_ic (-1)), (165, 166, zt_iret)]
theorem TX11_strays_ok : ∀ i ∈ TX11_strays, Ent mX11_strays i := by
  refine List.forall_mem_cons.mpr ⟨ze_aload_n (k := 0) (by decide +kernel) rfl, ?_⟩
  refine List.forall_mem_cons.mpr ⟨ze_callVF (idx := 272) (by decide +kernel) ml_X11_272 mv_X11_closed rfl, ?_⟩
  refine List.forall_mem_cons.mpr ⟨ze_if_ne (off := 12) (by decide +kernel) (by decide), ?_⟩
  refine List.forall_mem_cons.mpr ⟨ze_iload_n (k := 1) (by decide +kernel) rfl, ?_⟩
  refine List.forall_mem_cons.mpr ⟨ze_if_lt (off := 8) (by decide +kernel) (by decide), ?_⟩
  refine List.forall_mem_cons.mpr ⟨ze_iload_n (k := 1) (by decide +kernel) rfl, ?_⟩
  refine List.forall_mem_cons.mpr ⟨ze_iconst (n := 2) (by decide +kernel) (by decide), ?_⟩
  refine List.forall_mem_cons.mpr ⟨ze_icmp_le (off := 5) (by decide +kernel) (by decide), ?_⟩
  refine List.forall_mem_cons.mpr ⟨ze_iconst (n := -1) (by decide +kernel) (by decide), ?_⟩
  refine List.forall_mem_cons.mpr ⟨ze_iret (by decide +kernel) rfl, ?_⟩
  refine List.forall_mem_cons.mpr ⟨ze_aload_n (k := 0) (by decide +kernel) rfl, ?_⟩
  refine List.forall_mem_cons.mpr ⟨ze_getL (by decide +kernel) fl_X11_57 rfl (by decide), ?_⟩
  refine List.forall_mem_cons.mpr ⟨ze_aload_n (k := 0) (by decide +kernel) rfl, ?_⟩
  refine List.forall_mem_cons.mpr ⟨ze_getL (by decide +kernel) fl_X11_17 rfl (by decide), ?_⟩
  refine List.forall_mem_cons.mpr ⟨ze_iconst (n := 0) (by decide +kernel) (by decide), ?_⟩
  refine List.forall_mem_cons.mpr ⟨ze_iconst (n := 0) (by decide +kernel) (by decide), ?_⟩
  refine List.forall_mem_cons.mpr ⟨ze_callVF (idx := 204) (by decide +kernel) ml_X11_204 mv_X8_reckon rfl, ?_⟩
  refine List.forall_mem_cons.mpr ⟨ze_astoreF_n (k := 2) (by decide +kernel) rfl (by decide), ?_⟩
  refine List.forall_mem_cons.mpr ⟨ze_aload_n (k := 0) (by decide +kernel) rfl, ?_⟩
  refine List.forall_mem_cons.mpr ⟨ze_getL (by decide +kernel) fl_X11_57 rfl (by decide), ?_⟩
  refine List.forall_mem_cons.mpr ⟨ze_aload_n (k := 0) (by decide +kernel) rfl, ?_⟩
  refine List.forall_mem_cons.mpr ⟨ze_getL (by decide +kernel) fl_X11_17 rfl (by decide), ?_⟩
  refine List.forall_mem_cons.mpr ⟨ze_iconst (n := 0) (by decide +kernel) (by decide), ?_⟩
  refine List.forall_mem_cons.mpr ⟨ze_iconst (n := 1) (by decide +kernel) (by decide), ?_⟩
  refine List.forall_mem_cons.mpr ⟨ze_callVF (idx := 204) (by decide +kernel) ml_X11_204 mv_X8_reckon rfl, ?_⟩
  refine List.forall_mem_cons.mpr ⟨ze_astoreF_n (k := 3) (by decide +kernel) rfl (by decide), ?_⟩
  refine List.forall_mem_cons.mpr ⟨ze_aload_n (k := 0) (by decide +kernel) rfl, ?_⟩
  refine List.forall_mem_cons.mpr ⟨ze_getL (by decide +kernel) fl_X11_17 rfl (by decide), ?_⟩
  refine List.forall_mem_cons.mpr ⟨ze_iconst (n := 0) (by decide +kernel) (by decide), ?_⟩
  refine List.forall_mem_cons.mpr ⟨ze_iald (by decide +kernel), ?_⟩
  refine List.forall_mem_cons.mpr ⟨ze_istoreF (by decide +kernel) (by decide), ?_⟩
  refine List.forall_mem_cons.mpr ⟨ze_aload_n (k := 0) (by decide +kernel) rfl, ?_⟩
  refine List.forall_mem_cons.mpr ⟨ze_getL (by decide +kernel) fl_X11_17 rfl (by decide), ?_⟩
  refine List.forall_mem_cons.mpr ⟨ze_iconst (n := 1) (by decide +kernel) (by decide), ?_⟩
  refine List.forall_mem_cons.mpr ⟨ze_iald (by decide +kernel), ?_⟩
  refine List.forall_mem_cons.mpr ⟨ze_istoreF (by decide +kernel) (by decide), ?_⟩
  refine List.forall_mem_cons.mpr ⟨ze_iconst (n := 0) (by decide +kernel) (by decide), ?_⟩
  refine List.forall_mem_cons.mpr ⟨ze_istoreF (by decide +kernel) (by decide), ?_⟩
  refine List.forall_mem_cons.mpr ⟨ze_iload (by decide +kernel), ?_⟩
  refine List.forall_mem_cons.mpr ⟨ze_istoreF (by decide +kernel) (by decide), ?_⟩
  refine List.forall_mem_cons.mpr ⟨ze_iload (by decide +kernel), ?_⟩
  refine List.forall_mem_cons.mpr ⟨ze_aload_n (k := 0) (by decide +kernel) rfl, ?_⟩
  refine List.forall_mem_cons.mpr ⟨ze_getL (by decide +kernel) fl_X11_9 rfl (by decide), ?_⟩
  refine List.forall_mem_cons.mpr ⟨ze_iconst (n := 1) (by decide +kernel) (by decide), ?_⟩
  refine List.forall_mem_cons.mpr ⟨ze_iald (by decide +kernel), ?_⟩
  refine List.forall_mem_cons.mpr ⟨ze_icmp_ge (off := 78) (by decide +kernel) (by decide), ?_⟩
  refine List.forall_mem_cons.mpr ⟨ze_iload (by decide +kernel), ?_⟩
  refine List.forall_mem_cons.mpr ⟨ze_istoreF (by decide +kernel) (by decide), ?_⟩
  refine List.forall_mem_cons.mpr ⟨ze_iload (by decide +kernel), ?_⟩
  refine List.forall_mem_cons.mpr ⟨ze_iload (by decide +kernel), ?_⟩
  refine List.forall_mem_cons.mpr ⟨ze_iload (by decide +kernel), ?_⟩
  refine List.forall_mem_cons.mpr ⟨ze_iadd (by decide +kernel), ?_⟩
  refine List.forall_mem_cons.mpr ⟨ze_iload (by decide +kernel), ?_⟩
  refine List.forall_mem_cons.mpr ⟨ze_isub (by decide +kernel), ?_⟩
  refine List.forall_mem_cons.mpr ⟨ze_icmp_gt (off := 55) (by decide +kernel) (by decide), ?_⟩
  refine List.forall_mem_cons.mpr ⟨ze_iload (by decide +kernel), ?_⟩
  refine List.forall_mem_cons.mpr ⟨ze_iload (by decide +kernel), ?_⟩
  refine List.forall_mem_cons.mpr ⟨ze_callSF (idx := 145) (by decide +kernel) ml_X11_145 ms_X8_nodeOf, ?_⟩
  refine List.forall_mem_cons.mpr ⟨ze_istoreF (by decide +kernel) (by decide), ?_⟩
  refine List.forall_mem_cons.mpr ⟨ze_aload_n (k := 2) (by decide +kernel) rfl, ?_⟩
  refine List.forall_mem_cons.mpr ⟨ze_getL (by decide +kernel) fl_X11_223 rfl (by decide), ?_⟩
  refine List.forall_mem_cons.mpr ⟨ze_iload (by decide +kernel), ?_⟩
  refine List.forall_mem_cons.mpr ⟨ze_iald (by decide +kernel), ?_⟩
  refine List.forall_mem_cons.mpr ⟨ze_aload_n (k := 3) (by decide +kernel) rfl, ?_⟩
  refine List.forall_mem_cons.mpr ⟨ze_getL (by decide +kernel) fl_X11_223 rfl (by decide), ?_⟩
  refine List.forall_mem_cons.mpr ⟨ze_iload (by decide +kernel), ?_⟩
  refine List.forall_mem_cons.mpr ⟨ze_iald (by decide +kernel), ?_⟩
  refine List.forall_mem_cons.mpr ⟨ze_icmp_eq (off := 23) (by decide +kernel) (by decide), ?_⟩
  refine List.forall_mem_cons.mpr ⟨ze_iload_n (k := 1) (by decide +kernel) rfl, ?_⟩
  refine List.forall_mem_cons.mpr ⟨ze_if_le (off := 16) (by decide +kernel) (by decide), ?_⟩
  refine List.forall_mem_cons.mpr ⟨ze_iload_n (k := 1) (by decide +kernel) rfl, ?_⟩
  refine List.forall_mem_cons.mpr ⟨ze_iconst (n := 1) (by decide +kernel) (by decide), ?_⟩
  refine List.forall_mem_cons.mpr ⟨ze_icmp_ne (off := 8) (by decide +kernel) (by decide), ?_⟩
  refine List.forall_mem_cons.mpr ⟨ze_iload (by decide +kernel), ?_⟩
  refine List.forall_mem_cons.mpr ⟨ze_goto (off := 5) (by decide +kernel) (by decide), ?_⟩
  refine List.forall_mem_cons.mpr ⟨ze_iload (by decide +kernel), ?_⟩
  refine List.forall_mem_cons.mpr ⟨ze_iret (by decide +kernel) rfl, ?_⟩
  refine List.forall_mem_cons.mpr ⟨ze_iincF (n := 1) (by decide +kernel) (by decide) (by decide), ?_⟩
  refine List.forall_mem_cons.mpr ⟨ze_iincF (n := 1) (by decide +kernel) (by decide) (by decide), ?_⟩
  refine List.forall_mem_cons.mpr ⟨ze_goto (off := -62) (by decide +kernel) (by decide), ?_⟩
  refine List.forall_mem_cons.mpr ⟨ze_iincF (n := 1) (by decide +kernel) (by decide) (by decide), ?_⟩
  refine List.forall_mem_cons.mpr ⟨ze_goto (off := -83) (by decide +kernel) (by decide), ?_⟩
  refine List.forall_mem_cons.mpr ⟨ze_iload_n (k := 1) (by decide +kernel) rfl, ?_⟩
  refine List.forall_mem_cons.mpr ⟨ze_if_ne (off := 8) (by decide +kernel) (by decide), ?_⟩
  refine List.forall_mem_cons.mpr ⟨ze_iload (by decide +kernel), ?_⟩
  refine List.forall_mem_cons.mpr ⟨ze_goto (off := 4) (by decide +kernel) (by decide), ?_⟩
  refine List.forall_mem_cons.mpr ⟨ze_iconst (n := -1) (by decide +kernel) (by decide), ?_⟩
  refine List.forall_mem_cons.mpr ⟨ze_iret (by decide +kernel) rfl, ?_⟩
  exact fun _ h => absurd h List.not_mem_nil
theorem vX11_strays {l : Launch} {G : GT} {d : Nat} {av : List Value} {Q : Po} {σ : Mm} (cs : List (Nat × List Nat)) (k : Nat) (h : vc l G d mX11_strays TX11_strays Q cs k TX11_strays (lv_args 0 av) [] σ) (hlen : (lg_sl av).length ≤ mX11_strays.2.2.1 := by exact Nat.le_of_ble_eq_true rfl) : MW l G d mX11_strays av σ Q := mw_vc TX11_strays_ok mc_X11_strays rfl hlen cs k rfl h
theorem wX11_strays {l : Launch} {G : GT} {d : Nat} {Q : Po} {pc : Nat} {lv : Lv} {st : List Value} {σ : Mm} (cs : List (Nat × List Nat)) (k : Nat) (h : vc l G d mX11_strays TX11_strays Q cs k (drp TX11_strays pc) lv st σ) (hpc : hdp (drp TX11_strays pc) = pc := by rfl) : Wp l G d mX11_strays pc lv st σ Q := wp_vc TX11_strays_ok cs k hpc h
def TX11_mended : List In := [(0, 1, zt_aload 0), (1, 2, zt_iload 1), (2, 3, zt_iload 2), (3, 6, zt_callVF mX11_isNode 2 19), (6, 9, zt_if_ne 11), (9, 10, zt_ic (-1)), (10, 11, zt_iret), (11, 12, zt_aload 0), (12, 15, zt_getL 19 8), (15, 16, zt_aload 0), (16, 19, zt_getL 19 1), (19, 20, zt_ic 0), (20, 21, zt_ic 1), (21, 24, zt_callVF mX8_reckon 3 16), (24, 25, zt_astoreF 3), (25, 26, zt_aload 0), (26, 29, zt_getL 19 8), (29, 30, zt_aload 3), (30, 31, zt_iload 1), (31, 32, zt_iload 2), (32, 35, zt_callSF mX8_nodeOf 2), (35, 36, zt_aload 0), (36, 39, zt_getL 19 8), (39, 40, zt_iload 1), (40, 41, zt_aload 3), (41, 44, zt_getI 15 6), (44, 47, zt_callVF mX8_lastAllowed 2 16), (47, 50, zt_callVF mX8_leastDeed 3 16), (50, 51, zt_iret)]
theorem TX11_mended_ok : ∀ i ∈ TX11_mended, Ent mX11_mended i := by
  refine List.forall_mem_cons.mpr ⟨ze_aload_n (k := 0) (by decide +kernel) rfl, ?_⟩
  refine List.forall_mem_cons.mpr ⟨ze_iload_n (k := 1) (by decide +kernel) rfl, ?_⟩
  refine List.forall_mem_cons.mpr ⟨ze_iload_n (k := 2) (by decide +kernel) rfl, ?_⟩
  refine List.forall_mem_cons.mpr ⟨ze_callVF (idx := 165) (by decide +kernel) ml_X11_165 mv_X11_isNode rfl, ?_⟩
  refine List.forall_mem_cons.mpr ⟨ze_if_ne (off := 5) (by decide +kernel) (by decide), ?_⟩
  refine List.forall_mem_cons.mpr ⟨ze_iconst (n := -1) (by decide +kernel) (by decide), ?_⟩
  refine List.forall_mem_cons.mpr ⟨ze_iret (by decide +kernel) rfl, ?_⟩
  refine List.forall_mem_cons.mpr ⟨ze_aload_n (k := 0) (by decide +kernel) rfl, ?_⟩
  refine List.forall_mem_cons.mpr ⟨ze_getL (by decide +kernel) fl_X11_57 rfl (by decide), ?_⟩
  refine List.forall_mem_cons.mpr ⟨ze_aload_n (k := 0) (by decide +kernel) rfl, ?_⟩
  refine List.forall_mem_cons.mpr ⟨ze_getL (by decide +kernel) fl_X11_17 rfl (by decide), ?_⟩
  refine List.forall_mem_cons.mpr ⟨ze_iconst (n := 0) (by decide +kernel) (by decide), ?_⟩
  refine List.forall_mem_cons.mpr ⟨ze_iconst (n := 1) (by decide +kernel) (by decide), ?_⟩
  refine List.forall_mem_cons.mpr ⟨ze_callVF (idx := 204) (by decide +kernel) ml_X11_204 mv_X8_reckon rfl, ?_⟩
  refine List.forall_mem_cons.mpr ⟨ze_astoreF_n (k := 3) (by decide +kernel) rfl (by decide), ?_⟩
  refine List.forall_mem_cons.mpr ⟨ze_aload_n (k := 0) (by decide +kernel) rfl, ?_⟩
  refine List.forall_mem_cons.mpr ⟨ze_getL (by decide +kernel) fl_X11_57 rfl (by decide), ?_⟩
  refine List.forall_mem_cons.mpr ⟨ze_aload_n (k := 3) (by decide +kernel) rfl, ?_⟩
  refine List.forall_mem_cons.mpr ⟨ze_iload_n (k := 1) (by decide +kernel) rfl, ?_⟩
  refine List.forall_mem_cons.mpr ⟨ze_iload_n (k := 2) (by decide +kernel) rfl, ?_⟩
  refine List.forall_mem_cons.mpr ⟨ze_callSF (idx := 145) (by decide +kernel) ml_X11_145 ms_X8_nodeOf, ?_⟩
  refine List.forall_mem_cons.mpr ⟨ze_aload_n (k := 0) (by decide +kernel) rfl, ?_⟩
  refine List.forall_mem_cons.mpr ⟨ze_getL (by decide +kernel) fl_X11_57 rfl (by decide), ?_⟩
  refine List.forall_mem_cons.mpr ⟨ze_iload_n (k := 1) (by decide +kernel) rfl, ?_⟩
  refine List.forall_mem_cons.mpr ⟨ze_aload_n (k := 3) (by decide +kernel) rfl, ?_⟩
  refine List.forall_mem_cons.mpr ⟨ze_getI (by decide +kernel) fl_X11_213 rfl, ?_⟩
  refine List.forall_mem_cons.mpr ⟨ze_callVF (idx := 216) (by decide +kernel) ml_X11_216 mv_X8_lastAllowed rfl, ?_⟩
  refine List.forall_mem_cons.mpr ⟨ze_callVF (idx := 366) (by decide +kernel) ml_X11_366 mv_X8_leastDeed rfl, ?_⟩
  refine List.forall_mem_cons.mpr ⟨ze_iret (by decide +kernel) rfl, ?_⟩
  exact fun _ h => absurd h List.not_mem_nil
theorem vX11_mended {l : Launch} {G : GT} {d : Nat} {av : List Value} {Q : Po} {σ : Mm} (cs : List (Nat × List Nat)) (k : Nat) (h : vc l G d mX11_mended TX11_mended Q cs k TX11_mended (lv_args 0 av) [] σ) (hlen : (lg_sl av).length ≤ mX11_mended.2.2.1 := by exact Nat.le_of_ble_eq_true rfl) : MW l G d mX11_mended av σ Q := mw_vc TX11_mended_ok mc_X11_mended rfl hlen cs k rfl h
theorem wX11_mended {l : Launch} {G : GT} {d : Nat} {Q : Po} {pc : Nat} {lv : Lv} {st : List Value} {σ : Mm} (cs : List (Nat × List Nat)) (k : Nat) (h : vc l G d mX11_mended TX11_mended Q cs k (drp TX11_mended pc) lv st σ) (hpc : hdp (drp TX11_mended pc) = pc := by rfl) : Wp l G d mX11_mended pc lv st σ Q := wp_vc TX11_mended_ok cs k hpc h
def TX11_rounds : List In := [(0, 1, zt_aload 0), (1, 4, zt_callVF mX11_closed 0 19), (4, 7, zt_if_eq 9), (7, 8, zt_ic (-1)), (8, 9, zt_iret), (9, 10, zt_aload 0), (10, 13, zt_getL 19 1), (13, 14, zt_ic 0), (14, 15, zt_aload 0), (15, 18, zt_getL 19 2), (18, 19, zt_ic 0), (19, 21, zt_ic 115), (21, 24, zt_copyI), (24, 25, zt_ic 0), (25, 26, zt_istoreF 1), (26, 27, zt_iload 1), (27, 29, zt_ic 20), (29, 32, zt_icmp_gt 47), (32, 33, zt_aload 0), (33, 36, zt_callVF mX11_mendsTrial 0 19), (36, 39, zt_if_ne 41), (39, 40, zt_iload 1), (40, 41, zt_iret), (41, 44, zt_iincF 1 1), (44, 47, zt_goto 26), (47, 48, zt_ic (-1)), (48, 49, zt_iret)]
theorem TX11_rounds_ok : ∀ i ∈ TX11_rounds, Ent mX11_rounds i := by
  refine List.forall_mem_cons.mpr ⟨ze_aload_n (k := 0) (by decide +kernel) rfl, ?_⟩
  refine List.forall_mem_cons.mpr ⟨ze_callVF (idx := 272) (by decide +kernel) ml_X11_272 mv_X11_closed rfl, ?_⟩
  refine List.forall_mem_cons.mpr ⟨ze_if_eq (off := 5) (by decide +kernel) (by decide), ?_⟩
  refine List.forall_mem_cons.mpr ⟨ze_iconst (n := -1) (by decide +kernel) (by decide), ?_⟩
  refine List.forall_mem_cons.mpr ⟨ze_iret (by decide +kernel) rfl, ?_⟩
  refine List.forall_mem_cons.mpr ⟨ze_aload_n (k := 0) (by decide +kernel) rfl, ?_⟩
  refine List.forall_mem_cons.mpr ⟨ze_getL (by decide +kernel) fl_X11_17 rfl (by decide), ?_⟩
  refine List.forall_mem_cons.mpr ⟨ze_iconst (n := 0) (by decide +kernel) (by decide), ?_⟩
  refine List.forall_mem_cons.mpr ⟨ze_aload_n (k := 0) (by decide +kernel) rfl, ?_⟩
  refine List.forall_mem_cons.mpr ⟨ze_getL (by decide +kernel) fl_X11_20 rfl (by decide), ?_⟩
  refine List.forall_mem_cons.mpr ⟨ze_iconst (n := 0) (by decide +kernel) (by decide), ?_⟩
  refine List.forall_mem_cons.mpr ⟨ze_bipush (n := 115) (by decide +kernel) (by decide), ?_⟩
  refine List.forall_mem_cons.mpr ⟨ze_copyI (idx := 133) (by decide +kernel) ml_X11_133 jcp.1 jcp.2.1 jcp.2.2, ?_⟩
  refine List.forall_mem_cons.mpr ⟨ze_iconst (n := 0) (by decide +kernel) (by decide), ?_⟩
  refine List.forall_mem_cons.mpr ⟨ze_istoreF_n (k := 1) (by decide +kernel) rfl (by decide), ?_⟩
  refine List.forall_mem_cons.mpr ⟨ze_iload_n (k := 1) (by decide +kernel) rfl, ?_⟩
  refine List.forall_mem_cons.mpr ⟨ze_bipush (n := 20) (by decide +kernel) (by decide), ?_⟩
  refine List.forall_mem_cons.mpr ⟨ze_icmp_gt (off := 18) (by decide +kernel) (by decide), ?_⟩
  refine List.forall_mem_cons.mpr ⟨ze_aload_n (k := 0) (by decide +kernel) rfl, ?_⟩
  refine List.forall_mem_cons.mpr ⟨ze_callVF (idx := 369) (by decide +kernel) ml_X11_369 mv_X11_mendsTrial rfl, ?_⟩
  refine List.forall_mem_cons.mpr ⟨ze_if_ne (off := 5) (by decide +kernel) (by decide), ?_⟩
  refine List.forall_mem_cons.mpr ⟨ze_iload_n (k := 1) (by decide +kernel) rfl, ?_⟩
  refine List.forall_mem_cons.mpr ⟨ze_iret (by decide +kernel) rfl, ?_⟩
  refine List.forall_mem_cons.mpr ⟨ze_iincF (n := 1) (by decide +kernel) (by decide) (by decide), ?_⟩
  refine List.forall_mem_cons.mpr ⟨ze_goto (off := -18) (by decide +kernel) (by decide), ?_⟩
  refine List.forall_mem_cons.mpr ⟨ze_iconst (n := -1) (by decide +kernel) (by decide), ?_⟩
  refine List.forall_mem_cons.mpr ⟨ze_iret (by decide +kernel) rfl, ?_⟩
  exact fun _ h => absurd h List.not_mem_nil
theorem vX11_rounds {l : Launch} {G : GT} {d : Nat} {av : List Value} {Q : Po} {σ : Mm} (cs : List (Nat × List Nat)) (k : Nat) (h : vc l G d mX11_rounds TX11_rounds Q cs k TX11_rounds (lv_args 0 av) [] σ) (hlen : (lg_sl av).length ≤ mX11_rounds.2.2.1 := by exact Nat.le_of_ble_eq_true rfl) : MW l G d mX11_rounds av σ Q := mw_vc TX11_rounds_ok mc_X11_rounds rfl hlen cs k rfl h
theorem wX11_rounds {l : Launch} {G : GT} {d : Nat} {Q : Po} {pc : Nat} {lv : Lv} {st : List Value} {σ : Mm} (cs : List (Nat × List Nat)) (k : Nat) (h : vc l G d mX11_rounds TX11_rounds Q cs k (drp TX11_rounds pc) lv st σ) (hpc : hdp (drp TX11_rounds pc) = pc := by rfl) : Wp l G d mX11_rounds pc lv st σ Q := wp_vc TX11_rounds_ok cs k hpc h
def TX11_mendsTrial : List In := [(0, 1, zt_aload 0), (1, 4, zt_getL 19 8), (4, 5, zt_aload 0), (5, 8, zt_getL 19 2), (8, 9, zt_ic 0), (9, 10, zt_ic 1), (10, 13, zt_callVF mX8_reckon 3 16), (13, 14, zt_astoreF 1), (14, 15, zt_aload 0), (15, 18, zt_getL 19 2), (18, 19, zt_ic 0), (19, 20, zt_iald), (20, 21, zt_istoreF 2), (21, 22, zt_aload 0), (22, 25, zt_getL 19 2), (25, 26, zt_ic 1), (26, 27, zt_iald), (27, 28, zt_istoreF 3), (28, 29, zt_ic 0), (29, 31, zt_istoreF 4), (31, 32, zt_iload 2), (32, 34, zt_istoreF 5), (34, 36, zt_iload 5), (36, 37, zt_aload 0), (37, 40, zt_getL 19 0), (40, 41, zt_ic 1), (41, 42, zt_iald), (42, 45, zt_icmp_ge 137), (45, 46, zt_aload 0), (46, 49, zt_getL 19 8), (49, 51, zt_iload 5), (51, 52, zt_aload 1), (52, 55, zt_getI 15 6), (55, 58, zt_callVF mX8_lastAllowed 2 16), (58, 60, zt_istoreF 6), (60, 61, zt_iload 3), (61, 63, zt_istoreF 7), (63, 65, zt_iload 7), (65, 66, zt_iload 3), (66, 68, zt_iload 5), (68, 69, zt_iadd), (69, 70, zt_iload 2), (70, 71, zt_isub), (71, 74, zt_icmp_gt 131), (74, 75, zt_aload 0), (75, 78, zt_getL 19 8), (78, 79, zt_aload 1), (79, 81, zt_iload 5), (81, 83, zt_iload 7), (83, 86, zt_callSF mX8_nodeOf 2), (86, 88, zt_iload 6), (88, 91, zt_callVF mX8_leastDeed 3 16), (91, 93, zt_istoreF 8), (93, 95, zt_iload 8), (95, 96, zt_aload 0), (96, 99, zt_getL 19 2), (99, 101, zt_iload 5), (101, 103, zt_iload 7), (103, 106, zt_callSF mX0_deedOf 3), (106, 109, zt_icmp_eq 125), (109, 110, zt_aload 0), (110, 113, zt_getL 19 2), (113, 115, zt_iload 5), (115, 117, zt_iload 7), (117, 119, zt_iload 8), (119, 122, zt_callSF mX0_setDeed 4), (122, 123, zt_ic 1), (123, 125, zt_istoreF 4), (125, 128, zt_iincF 7 1), (128, 131, zt_goto 63), (131, 134, zt_iincF 5 1), (134, 137, zt_goto 34), (137, 139, zt_iload 4), (139, 140, zt_zret)]
theorem TX11_mendsTrial_ok : ∀ i ∈ TX11_mendsTrial, Ent mX11_mendsTrial i := by
  refine List.forall_mem_cons.mpr ⟨ze_aload_n (k := 0) (by decide +kernel) rfl, ?_⟩
  refine List.forall_mem_cons.mpr ⟨ze_getL (by decide +kernel) fl_X11_57 rfl (by decide), ?_⟩
  refine List.forall_mem_cons.mpr ⟨ze_aload_n (k := 0) (by decide +kernel) rfl, ?_⟩
  refine List.forall_mem_cons.mpr ⟨ze_getL (by decide +kernel) fl_X11_20 rfl (by decide), ?_⟩
  refine List.forall_mem_cons.mpr ⟨ze_iconst (n := 0) (by decide +kernel) (by decide), ?_⟩
  refine List.forall_mem_cons.mpr ⟨ze_iconst (n := 1) (by decide +kernel) (by decide), ?_⟩
  refine List.forall_mem_cons.mpr ⟨ze_callVF (idx := 204) (by decide +kernel) ml_X11_204 mv_X8_reckon rfl, ?_⟩
  refine List.forall_mem_cons.mpr ⟨ze_astoreF_n (k := 1) (by decide +kernel) rfl (by decide), ?_⟩
  refine List.forall_mem_cons.mpr ⟨ze_aload_n (k := 0) (by decide +kernel) rfl, ?_⟩
  refine List.forall_mem_cons.mpr ⟨ze_getL (by decide +kernel) fl_X11_20 rfl (by decide), ?_⟩
  refine List.forall_mem_cons.mpr ⟨ze_iconst (n := 0) (by decide +kernel) (by decide), ?_⟩
  refine List.forall_mem_cons.mpr ⟨ze_iald (by decide +kernel), ?_⟩
  refine List.forall_mem_cons.mpr ⟨ze_istoreF_n (k := 2) (by decide +kernel) rfl (by decide), ?_⟩
  refine List.forall_mem_cons.mpr ⟨ze_aload_n (k := 0) (by decide +kernel) rfl, ?_⟩
  refine List.forall_mem_cons.mpr ⟨ze_getL (by decide +kernel) fl_X11_20 rfl (by decide), ?_⟩
  refine List.forall_mem_cons.mpr ⟨ze_iconst (n := 1) (by decide +kernel) (by decide), ?_⟩
  refine List.forall_mem_cons.mpr ⟨ze_iald (by decide +kernel), ?_⟩
  refine List.forall_mem_cons.mpr ⟨ze_istoreF_n (k := 3) (by decide +kernel) rfl (by decide), ?_⟩
  refine List.forall_mem_cons.mpr ⟨ze_iconst (n := 0) (by decide +kernel) (by decide), ?_⟩
  refine List.forall_mem_cons.mpr ⟨ze_istoreF (by decide +kernel) (by decide), ?_⟩
  refine List.forall_mem_cons.mpr ⟨ze_iload_n (k := 2) (by decide +kernel) rfl, ?_⟩
  refine List.forall_mem_cons.mpr ⟨ze_istoreF (by decide +kernel) (by decide), ?_⟩
  refine List.forall_mem_cons.mpr ⟨ze_iload (by decide +kernel), ?_⟩
  refine List.forall_mem_cons.mpr ⟨ze_aload_n (k := 0) (by decide +kernel) rfl, ?_⟩
  refine List.forall_mem_cons.mpr ⟨ze_getL (by decide +kernel) fl_X11_9 rfl (by decide), ?_⟩
  refine List.forall_mem_cons.mpr ⟨ze_iconst (n := 1) (by decide +kernel) (by decide), ?_⟩
  refine List.forall_mem_cons.mpr ⟨ze_iald (by decide +kernel), ?_⟩
  refine List.forall_mem_cons.mpr ⟨ze_icmp_ge (off := 95) (by decide +kernel) (by decide), ?_⟩
  refine List.forall_mem_cons.mpr ⟨ze_aload_n (k := 0) (by decide +kernel) rfl, ?_⟩
  refine List.forall_mem_cons.mpr ⟨ze_getL (by decide +kernel) fl_X11_57 rfl (by decide), ?_⟩
  refine List.forall_mem_cons.mpr ⟨ze_iload (by decide +kernel), ?_⟩
  refine List.forall_mem_cons.mpr ⟨ze_aload_n (k := 1) (by decide +kernel) rfl, ?_⟩
  refine List.forall_mem_cons.mpr ⟨ze_getI (by decide +kernel) fl_X11_213 rfl, ?_⟩
  refine List.forall_mem_cons.mpr ⟨ze_callVF (idx := 216) (by decide +kernel) ml_X11_216 mv_X8_lastAllowed rfl, ?_⟩
  refine List.forall_mem_cons.mpr ⟨ze_istoreF (by decide +kernel) (by decide), ?_⟩
  refine List.forall_mem_cons.mpr ⟨ze_iload_n (k := 3) (by decide +kernel) rfl, ?_⟩
  refine List.forall_mem_cons.mpr ⟨ze_istoreF (by decide +kernel) (by decide), ?_⟩
  refine List.forall_mem_cons.mpr ⟨ze_iload (by decide +kernel), ?_⟩
  refine List.forall_mem_cons.mpr ⟨ze_iload_n (k := 3) (by decide +kernel) rfl, ?_⟩
  refine List.forall_mem_cons.mpr ⟨ze_iload (by decide +kernel), ?_⟩
  refine List.forall_mem_cons.mpr ⟨ze_iadd (by decide +kernel), ?_⟩
  refine List.forall_mem_cons.mpr ⟨ze_iload_n (k := 2) (by decide +kernel) rfl, ?_⟩
  refine List.forall_mem_cons.mpr ⟨ze_isub (by decide +kernel), ?_⟩
  refine List.forall_mem_cons.mpr ⟨ze_icmp_gt (off := 60) (by decide +kernel) (by decide), ?_⟩
  refine List.forall_mem_cons.mpr ⟨ze_aload_n (k := 0) (by decide +kernel) rfl, ?_⟩
  refine List.forall_mem_cons.mpr ⟨ze_getL (by decide +kernel) fl_X11_57 rfl (by decide), ?_⟩
  refine List.forall_mem_cons.mpr ⟨ze_aload_n (k := 1) (by decide +kernel) rfl, ?_⟩
  refine List.forall_mem_cons.mpr ⟨ze_iload (by decide +kernel), ?_⟩
  refine List.forall_mem_cons.mpr ⟨ze_iload (by decide +kernel), ?_⟩
  refine List.forall_mem_cons.mpr ⟨ze_callSF (idx := 145) (by decide +kernel) ml_X11_145 ms_X8_nodeOf, ?_⟩
  refine List.forall_mem_cons.mpr ⟨ze_iload (by decide +kernel), ?_⟩
  refine List.forall_mem_cons.mpr ⟨ze_callVF (idx := 366) (by decide +kernel) ml_X11_366 mv_X8_leastDeed rfl, ?_⟩
  refine List.forall_mem_cons.mpr ⟨ze_istoreF (by decide +kernel) (by decide), ?_⟩
  refine List.forall_mem_cons.mpr ⟨ze_iload (by decide +kernel), ?_⟩
  refine List.forall_mem_cons.mpr ⟨ze_aload_n (k := 0) (by decide +kernel) rfl, ?_⟩
  refine List.forall_mem_cons.mpr ⟨ze_getL (by decide +kernel) fl_X11_20 rfl (by decide), ?_⟩
  refine List.forall_mem_cons.mpr ⟨ze_iload (by decide +kernel), ?_⟩
  refine List.forall_mem_cons.mpr ⟨ze_iload (by decide +kernel), ?_⟩
  refine List.forall_mem_cons.mpr ⟨ze_callSF (idx := 175) (by decide +kernel) ml_X11_175 ms_X0_deedOf, ?_⟩
  refine List.forall_mem_cons.mpr ⟨ze_icmp_eq (off := 19) (by decide +kernel) (by decide), ?_⟩
  refine List.forall_mem_cons.mpr ⟨ze_aload_n (k := 0) (by decide +kernel) rfl, ?_⟩
  refine List.forall_mem_cons.mpr ⟨ze_getL (by decide +kernel) fl_X11_20 rfl (by decide), ?_⟩
  refine List.forall_mem_cons.mpr ⟨ze_iload (by decide +kernel), ?_⟩
  refine List.forall_mem_cons.mpr ⟨ze_iload (by decide +kernel), ?_⟩
  refine List.forall_mem_cons.mpr ⟨ze_iload (by decide +kernel), ?_⟩
  refine List.forall_mem_cons.mpr ⟨ze_callSF (idx := 172) (by decide +kernel) ml_X11_172 ms_X0_setDeed, ?_⟩
  refine List.forall_mem_cons.mpr ⟨ze_iconst (n := 1) (by decide +kernel) (by decide), ?_⟩
  refine List.forall_mem_cons.mpr ⟨ze_istoreF (by decide +kernel) (by decide), ?_⟩
  refine List.forall_mem_cons.mpr ⟨ze_iincF (n := 1) (by decide +kernel) (by decide) (by decide), ?_⟩
  refine List.forall_mem_cons.mpr ⟨ze_goto (off := -65) (by decide +kernel) (by decide), ?_⟩
  refine List.forall_mem_cons.mpr ⟨ze_iincF (n := 1) (by decide +kernel) (by decide) (by decide), ?_⟩
  refine List.forall_mem_cons.mpr ⟨ze_goto (off := -100) (by decide +kernel) (by decide), ?_⟩
  refine List.forall_mem_cons.mpr ⟨ze_iload (by decide +kernel), ?_⟩
  refine List.forall_mem_cons.mpr ⟨ze_zret (by decide +kernel) rfl, ?_⟩
  exact fun _ h => absurd h List.not_mem_nil
theorem vX11_mendsTrial {l : Launch} {G : GT} {d : Nat} {av : List Value} {Q : Po} {σ : Mm} (cs : List (Nat × List Nat)) (k : Nat) (h : vc l G d mX11_mendsTrial TX11_mendsTrial Q cs k TX11_mendsTrial (lv_args 0 av) [] σ) (hlen : (lg_sl av).length ≤ mX11_mendsTrial.2.2.1 := by exact Nat.le_of_ble_eq_true rfl) : MW l G d mX11_mendsTrial av σ Q := mw_vc TX11_mendsTrial_ok mc_X11_mendsTrial rfl hlen cs k rfl h
theorem wX11_mendsTrial {l : Launch} {G : GT} {d : Nat} {Q : Po} {pc : Nat} {lv : Lv} {st : List Value} {σ : Mm} (cs : List (Nat × List Nat)) (k : Nat) (h : vc l G d mX11_mendsTrial TX11_mendsTrial Q cs k (drp TX11_mendsTrial pc) lv st σ) (hpc : hdp (drp TX11_mendsTrial pc) = pc := by rfl) : Wp l G d mX11_mendsTrial pc lv st σ Q := wp_vc TX11_mendsTrial_ok cs k hpc h
def TX11_shifted : List In := [(0, 1, zt_aload 0), (1, 4, zt_callVF mX11_closed 0 19), (4, 7, zt_if_ne 19), (7, 8, zt_iload 1), (8, 10, zt_ic (-99)), (10, 13, zt_icmp_lt 19), (13, 14, zt_iload 1), (14, 16, zt_ic 99), (16, 19, zt_icmp_le 23), (19, 22, zt_lc (-1 : Int64)), (22, 23, zt_lret), (23, 24, zt_aload 0), (24, 27, zt_getL 19 8), (27, 28, zt_aload 0), (28, 31, zt_getL 19 1), (31, 32, zt_iload 1), (32, 33, zt_ic 0), (33, 36, zt_callVF mX8_reckon 3 16), (36, 39, zt_getL 15 0), (39, 40, zt_aload 0), (40, 43, zt_callVF mX11_here 0 19), (43, 44, zt_iald), (44, 45, zt_i2l), (45, 46, zt_lret)]
theorem TX11_shifted_ok : ∀ i ∈ TX11_shifted, Ent mX11_shifted i := by
  refine List.forall_mem_cons.mpr ⟨ze_aload_n (k := 0) (by decide +kernel) rfl, ?_⟩
  refine List.forall_mem_cons.mpr ⟨ze_callVF (idx := 272) (by decide +kernel) ml_X11_272 mv_X11_closed rfl, ?_⟩
  refine List.forall_mem_cons.mpr ⟨ze_if_ne (off := 15) (by decide +kernel) (by decide), ?_⟩
  refine List.forall_mem_cons.mpr ⟨ze_iload_n (k := 1) (by decide +kernel) rfl, ?_⟩
  refine List.forall_mem_cons.mpr ⟨ze_bipush (n := -99) (by decide +kernel) (by decide), ?_⟩
  refine List.forall_mem_cons.mpr ⟨ze_icmp_lt (off := 9) (by decide +kernel) (by decide), ?_⟩
  refine List.forall_mem_cons.mpr ⟨ze_iload_n (k := 1) (by decide +kernel) rfl, ?_⟩
  refine List.forall_mem_cons.mpr ⟨ze_bipush (n := 99) (by decide +kernel) (by decide), ?_⟩
  refine List.forall_mem_cons.mpr ⟨ze_icmp_le (off := 7) (by decide +kernel) (by decide), ?_⟩
  refine List.forall_mem_cons.mpr ⟨ze_ldc2 (i := 202) (by decide +kernel) kc_X11_202, ?_⟩
  refine List.forall_mem_cons.mpr ⟨ze_lret (by decide +kernel) rfl, ?_⟩
  refine List.forall_mem_cons.mpr ⟨ze_aload_n (k := 0) (by decide +kernel) rfl, ?_⟩
  refine List.forall_mem_cons.mpr ⟨ze_getL (by decide +kernel) fl_X11_57 rfl (by decide), ?_⟩
  refine List.forall_mem_cons.mpr ⟨ze_aload_n (k := 0) (by decide +kernel) rfl, ?_⟩
  refine List.forall_mem_cons.mpr ⟨ze_getL (by decide +kernel) fl_X11_17 rfl (by decide), ?_⟩
  refine List.forall_mem_cons.mpr ⟨ze_iload_n (k := 1) (by decide +kernel) rfl, ?_⟩
  refine List.forall_mem_cons.mpr ⟨ze_iconst (n := 0) (by decide +kernel) (by decide), ?_⟩
  refine List.forall_mem_cons.mpr ⟨ze_callVF (idx := 204) (by decide +kernel) ml_X11_204 mv_X8_reckon rfl, ?_⟩
  refine List.forall_mem_cons.mpr ⟨ze_getL (by decide +kernel) fl_X11_208 rfl (by decide), ?_⟩
  refine List.forall_mem_cons.mpr ⟨ze_aload_n (k := 0) (by decide +kernel) rfl, ?_⟩
  refine List.forall_mem_cons.mpr ⟨ze_callVF (idx := 301) (by decide +kernel) ml_X11_301 mv_X11_here rfl, ?_⟩
  refine List.forall_mem_cons.mpr ⟨ze_iald (by decide +kernel), ?_⟩
  refine List.forall_mem_cons.mpr ⟨ze_i2l (by decide +kernel), ?_⟩
  refine List.forall_mem_cons.mpr ⟨ze_lret (by decide +kernel) rfl, ?_⟩
  exact fun _ h => absurd h List.not_mem_nil
theorem vX11_shifted {l : Launch} {G : GT} {d : Nat} {av : List Value} {Q : Po} {σ : Mm} (cs : List (Nat × List Nat)) (k : Nat) (h : vc l G d mX11_shifted TX11_shifted Q cs k TX11_shifted (lv_args 0 av) [] σ) (hlen : (lg_sl av).length ≤ mX11_shifted.2.2.1 := by exact Nat.le_of_ble_eq_true rfl) : MW l G d mX11_shifted av σ Q := mw_vc TX11_shifted_ok mc_X11_shifted rfl hlen cs k rfl h
theorem wX11_shifted {l : Launch} {G : GT} {d : Nat} {Q : Po} {pc : Nat} {lv : Lv} {st : List Value} {σ : Mm} (cs : List (Nat × List Nat)) (k : Nat) (h : vc l G d mX11_shifted TX11_shifted Q cs k (drp TX11_shifted pc) lv st σ) (hpc : hdp (drp TX11_shifted pc) = pc := by rfl) : Wp l G d mX11_shifted pc lv st σ Q := wp_vc TX11_shifted_ok cs k hpc h
def TX11_spread : List In := [(0, 1, zt_aload 0), (1, 4, zt_callVF mX11_closed 0 19), (4, 7, zt_if_ne 16), (7, 8, zt_iload 1), (8, 11, zt_if_lt 16), (11, 12, zt_iload 1), (12, 13, zt_ic 4), (13, 16, zt_icmp_le 18), (16, 17, zt_ic (-1)), (17, 18, zt_iret), (18, 19, zt_aload 0), (19, 22, zt_getL 19 11), (22, 23, zt_aload 0), (23, 26, zt_getL 19 1), (26, 27, zt_ic 0), (27, 28, zt_ic 1), (28, 31, zt_callVF mX10_go 3 18), (31, 32, zt_iload 1), (32, 64, zt_tsw 0 3 [64, 72, 80, 88] 96), (64, 65, zt_aload 0), (65, 68, zt_getL 19 11), (68, 71, zt_getI 18 3), (71, 72, zt_iret), (72, 73, zt_aload 0), (73, 76, zt_getL 19 11), (76, 79, zt_getI 18 4), (79, 80, zt_iret), (80, 81, zt_aload 0), (81, 84, zt_getL 19 11), (84, 87, zt_getI 18 5), (87, 88, zt_iret), (88, 89, zt_aload 0), (89, 92, zt_getL 19 11), (92, 95, zt_getI 18 6), (95, 96, zt_iret), (96, 97, zt_aload 0), (97, 100, zt_getL 19 11), (100, 103, zt_getI 18 7), (103, 104, zt_iret)]
theorem TX11_spread_ok : ∀ i ∈ TX11_spread, Ent mX11_spread i := by
  refine List.forall_mem_cons.mpr ⟨ze_aload_n (k := 0) (by decide +kernel) rfl, ?_⟩
  refine List.forall_mem_cons.mpr ⟨ze_callVF (idx := 272) (by decide +kernel) ml_X11_272 mv_X11_closed rfl, ?_⟩
  refine List.forall_mem_cons.mpr ⟨ze_if_ne (off := 12) (by decide +kernel) (by decide), ?_⟩
  refine List.forall_mem_cons.mpr ⟨ze_iload_n (k := 1) (by decide +kernel) rfl, ?_⟩
  refine List.forall_mem_cons.mpr ⟨ze_if_lt (off := 8) (by decide +kernel) (by decide), ?_⟩
  refine List.forall_mem_cons.mpr ⟨ze_iload_n (k := 1) (by decide +kernel) rfl, ?_⟩
  refine List.forall_mem_cons.mpr ⟨ze_iconst (n := 4) (by decide +kernel) (by decide), ?_⟩
  refine List.forall_mem_cons.mpr ⟨ze_icmp_le (off := 5) (by decide +kernel) (by decide), ?_⟩
  refine List.forall_mem_cons.mpr ⟨ze_iconst (n := -1) (by decide +kernel) (by decide), ?_⟩
  refine List.forall_mem_cons.mpr ⟨ze_iret (by decide +kernel) rfl, ?_⟩
  refine List.forall_mem_cons.mpr ⟨ze_aload_n (k := 0) (by decide +kernel) rfl, ?_⟩
  refine List.forall_mem_cons.mpr ⟨ze_getL (by decide +kernel) fl_X11_82 rfl (by decide), ?_⟩
  refine List.forall_mem_cons.mpr ⟨ze_aload_n (k := 0) (by decide +kernel) rfl, ?_⟩
  refine List.forall_mem_cons.mpr ⟨ze_getL (by decide +kernel) fl_X11_17 rfl (by decide), ?_⟩
  refine List.forall_mem_cons.mpr ⟨ze_iconst (n := 0) (by decide +kernel) (by decide), ?_⟩
  refine List.forall_mem_cons.mpr ⟨ze_iconst (n := 1) (by decide +kernel) (by decide), ?_⟩
  refine List.forall_mem_cons.mpr ⟨ze_callVF (idx := 275) (by decide +kernel) ml_X11_275 mv_X10_go rfl, ?_⟩
  refine List.forall_mem_cons.mpr ⟨ze_iload_n (k := 1) (by decide +kernel) rfl, ?_⟩
  refine List.forall_mem_cons.mpr ⟨ze_tsw (len := 32) (df0 := 64) (offs := #[32, 40, 48, 56]) (by decide +kernel) (by decide) (by decide +kernel) (by decide), ?_⟩
  refine List.forall_mem_cons.mpr ⟨ze_aload_n (k := 0) (by decide +kernel) rfl, ?_⟩
  refine List.forall_mem_cons.mpr ⟨ze_getL (by decide +kernel) fl_X11_82 rfl (by decide), ?_⟩
  refine List.forall_mem_cons.mpr ⟨ze_getI (by decide +kernel) fl_X11_372 rfl, ?_⟩
  refine List.forall_mem_cons.mpr ⟨ze_iret (by decide +kernel) rfl, ?_⟩
  refine List.forall_mem_cons.mpr ⟨ze_aload_n (k := 0) (by decide +kernel) rfl, ?_⟩
  refine List.forall_mem_cons.mpr ⟨ze_getL (by decide +kernel) fl_X11_82 rfl (by decide), ?_⟩
  refine List.forall_mem_cons.mpr ⟨ze_getI (by decide +kernel) fl_X11_375 rfl, ?_⟩
  refine List.forall_mem_cons.mpr ⟨ze_iret (by decide +kernel) rfl, ?_⟩
  refine List.forall_mem_cons.mpr ⟨ze_aload_n (k := 0) (by decide +kernel) rfl, ?_⟩
  refine List.forall_mem_cons.mpr ⟨ze_getL (by decide +kernel) fl_X11_82 rfl (by decide), ?_⟩
  refine List.forall_mem_cons.mpr ⟨ze_getI (by decide +kernel) fl_X11_378 rfl, ?_⟩
  refine List.forall_mem_cons.mpr ⟨ze_iret (by decide +kernel) rfl, ?_⟩
  refine List.forall_mem_cons.mpr ⟨ze_aload_n (k := 0) (by decide +kernel) rfl, ?_⟩
  refine List.forall_mem_cons.mpr ⟨ze_getL (by decide +kernel) fl_X11_82 rfl (by decide), ?_⟩
  refine List.forall_mem_cons.mpr ⟨ze_getI (by decide +kernel) fl_X11_381 rfl, ?_⟩
  refine List.forall_mem_cons.mpr ⟨ze_iret (by decide +kernel) rfl, ?_⟩
  refine List.forall_mem_cons.mpr ⟨ze_aload_n (k := 0) (by decide +kernel) rfl, ?_⟩
  refine List.forall_mem_cons.mpr ⟨ze_getL (by decide +kernel) fl_X11_82 rfl (by decide), ?_⟩
  refine List.forall_mem_cons.mpr ⟨ze_getI (by decide +kernel) fl_X11_384 rfl, ?_⟩
  refine List.forall_mem_cons.mpr ⟨ze_iret (by decide +kernel) rfl, ?_⟩
  exact fun _ h => absurd h List.not_mem_nil
theorem vX11_spread {l : Launch} {G : GT} {d : Nat} {av : List Value} {Q : Po} {σ : Mm} (cs : List (Nat × List Nat)) (k : Nat) (h : vc l G d mX11_spread TX11_spread Q cs k TX11_spread (lv_args 0 av) [] σ) (hlen : (lg_sl av).length ≤ mX11_spread.2.2.1 := by exact Nat.le_of_ble_eq_true rfl) : MW l G d mX11_spread av σ Q := mw_vc TX11_spread_ok mc_X11_spread rfl hlen cs k rfl h
theorem wX11_spread {l : Launch} {G : GT} {d : Nat} {Q : Po} {pc : Nat} {lv : Lv} {st : List Value} {σ : Mm} (cs : List (Nat × List Nat)) (k : Nat) (h : vc l G d mX11_spread TX11_spread Q cs k (drp TX11_spread pc) lv st σ) (hpc : hdp (drp TX11_spread pc) = pc := by rfl) : Wp l G d mX11_spread pc lv st σ Q := wp_vc TX11_spread_ok cs k hpc h
def TX11_step : List In := [(0, 1, zt_aload 0), (1, 4, zt_getL 19 7), (4, 5, zt_iload 1), (5, 8, zt_callVF mX6_has 1 14), (8, 11, zt_if_eq 36), (11, 12, zt_iload 2), (12, 15, zt_if_lt 36), (15, 16, zt_iload 2), (16, 17, zt_aload 0), (17, 20, zt_getL 19 7), (20, 21, zt_iload 1), (21, 24, zt_callVF mX6_sizeOf 1 14), (24, 27, zt_icmp_ge 36), (27, 28, zt_iload 3), (28, 31, zt_if_lt 36), (31, 32, zt_iload 3), (32, 33, zt_ic 3), (33, 36, zt_icmp_le 40), (36, 39, zt_ic (-1000000 : Int32)), (39, 40, zt_iret), (40, 41, zt_aload 0), (41, 44, zt_getL 19 7), (44, 45, zt_iload 1), (45, 46, zt_iload 2), (46, 47, zt_iload 3), (47, 50, zt_callVF mX6_number 3 14), (50, 51, zt_iret)]
theorem TX11_step_ok : ∀ i ∈ TX11_step, Ent mX11_step i := by
  refine List.forall_mem_cons.mpr ⟨ze_aload_n (k := 0) (by decide +kernel) rfl, ?_⟩
  refine List.forall_mem_cons.mpr ⟨ze_getL (by decide +kernel) fl_X11_48 rfl (by decide), ?_⟩
  refine List.forall_mem_cons.mpr ⟨ze_iload_n (k := 1) (by decide +kernel) rfl, ?_⟩
  refine List.forall_mem_cons.mpr ⟨ze_callVF (idx := 387) (by decide +kernel) ml_X11_387 mv_X6_has rfl, ?_⟩
  refine List.forall_mem_cons.mpr ⟨ze_if_eq (off := 28) (by decide +kernel) (by decide), ?_⟩
  refine List.forall_mem_cons.mpr ⟨ze_iload_n (k := 2) (by decide +kernel) rfl, ?_⟩
  refine List.forall_mem_cons.mpr ⟨ze_if_lt (off := 24) (by decide +kernel) (by decide), ?_⟩
  refine List.forall_mem_cons.mpr ⟨ze_iload_n (k := 2) (by decide +kernel) rfl, ?_⟩
  refine List.forall_mem_cons.mpr ⟨ze_aload_n (k := 0) (by decide +kernel) rfl, ?_⟩
  refine List.forall_mem_cons.mpr ⟨ze_getL (by decide +kernel) fl_X11_48 rfl (by decide), ?_⟩
  refine List.forall_mem_cons.mpr ⟨ze_iload_n (k := 1) (by decide +kernel) rfl, ?_⟩
  refine List.forall_mem_cons.mpr ⟨ze_callVF (idx := 390) (by decide +kernel) ml_X11_390 mv_X6_sizeOf rfl, ?_⟩
  refine List.forall_mem_cons.mpr ⟨ze_icmp_ge (off := 12) (by decide +kernel) (by decide), ?_⟩
  refine List.forall_mem_cons.mpr ⟨ze_iload_n (k := 3) (by decide +kernel) rfl, ?_⟩
  refine List.forall_mem_cons.mpr ⟨ze_if_lt (off := 8) (by decide +kernel) (by decide), ?_⟩
  refine List.forall_mem_cons.mpr ⟨ze_iload_n (k := 3) (by decide +kernel) rfl, ?_⟩
  refine List.forall_mem_cons.mpr ⟨ze_iconst (n := 3) (by decide +kernel) (by decide), ?_⟩
  refine List.forall_mem_cons.mpr ⟨ze_icmp_le (off := 7) (by decide +kernel) (by decide), ?_⟩
  refine List.forall_mem_cons.mpr ⟨ze_ldcw (i := 268) (by decide +kernel) kc_X11_268, ?_⟩
  refine List.forall_mem_cons.mpr ⟨ze_iret (by decide +kernel) rfl, ?_⟩
  refine List.forall_mem_cons.mpr ⟨ze_aload_n (k := 0) (by decide +kernel) rfl, ?_⟩
  refine List.forall_mem_cons.mpr ⟨ze_getL (by decide +kernel) fl_X11_48 rfl (by decide), ?_⟩
  refine List.forall_mem_cons.mpr ⟨ze_iload_n (k := 1) (by decide +kernel) rfl, ?_⟩
  refine List.forall_mem_cons.mpr ⟨ze_iload_n (k := 2) (by decide +kernel) rfl, ?_⟩
  refine List.forall_mem_cons.mpr ⟨ze_iload_n (k := 3) (by decide +kernel) rfl, ?_⟩
  refine List.forall_mem_cons.mpr ⟨ze_callVF (idx := 393) (by decide +kernel) ml_X11_393 mv_X6_number rfl, ?_⟩
  refine List.forall_mem_cons.mpr ⟨ze_iret (by decide +kernel) rfl, ?_⟩
  exact fun _ h => absurd h List.not_mem_nil
theorem vX11_step {l : Launch} {G : GT} {d : Nat} {av : List Value} {Q : Po} {σ : Mm} (cs : List (Nat × List Nat)) (k : Nat) (h : vc l G d mX11_step TX11_step Q cs k TX11_step (lv_args 0 av) [] σ) (hlen : (lg_sl av).length ≤ mX11_step.2.2.1 := by exact Nat.le_of_ble_eq_true rfl) : MW l G d mX11_step av σ Q := mw_vc TX11_step_ok mc_X11_step rfl hlen cs k rfl h
theorem wX11_step {l : Launch} {G : GT} {d : Nat} {Q : Po} {pc : Nat} {lv : Lv} {st : List Value} {σ : Mm} (cs : List (Nat × List Nat)) (k : Nat) (h : vc l G d mX11_step TX11_step Q cs k (drp TX11_step pc) lv st σ) (hpc : hdp (drp TX11_step pc) = pc := by rfl) : Wp l G d mX11_step pc lv st σ Q := wp_vc TX11_step_ok cs k hpc h
def TX11_run : List In := [(0, 1, zt_aload 0), (1, 4, zt_getL 19 7), (4, 5, zt_iload 1), (5, 8, zt_callVF mX6_has 1 14), (8, 11, zt_if_eq 27), (11, 12, zt_aload 0), (12, 15, zt_callVF mX11_noLoan 0 19), (15, 18, zt_if_ne 27), (18, 19, zt_iload 2), (19, 22, zt_if_lt 27), (22, 23, zt_iload 2), (23, 24, zt_ic 1), (24, 27, zt_icmp_le 31), (27, 30, zt_ic (-1000000 : Int32)), (30, 31, zt_iret), (31, 32, zt_aload 0), (32, 35, zt_getL 19 1), (35, 36, zt_ic 0), (36, 37, zt_aload 0), (37, 40, zt_getL 19 2), (40, 41, zt_ic 0), (41, 43, zt_ic 115), (43, 46, zt_copyI), (46, 47, zt_aload 0), (47, 50, zt_getL 19 7), (50, 51, zt_iload 1), (51, 54, zt_callVF mX6_sizeOf 1 14), (54, 55, zt_istoreF 3), (55, 56, zt_ic 0), (56, 58, zt_istoreF 4), (58, 60, zt_iload 4), (60, 61, zt_iload 3), (61, 64, zt_icmp_ge 80), (64, 65, zt_aload 0), (65, 66, zt_iload 1), (66, 68, zt_iload 4), (68, 71, zt_callVF mX11_tries 2 19), (71, 74, zt_if_eq 80), (74, 77, zt_iincF 4 1), (77, 80, zt_goto 58), (80, 81, zt_aload 0), (81, 84, zt_getL 19 1), (84, 86, zt_ic 6), (86, 87, zt_iald), (87, 89, zt_istoreF 5), (89, 90, zt_aload 0), (90, 93, zt_getL 19 2), (93, 94, zt_ic 0), (94, 95, zt_aload 0), (95, 98, zt_getL 19 1), (98, 99, zt_ic 0), (99, 101, zt_ic 115), (101, 104, zt_copyI), (104, 105, zt_iload 2), (105, 106, zt_ic 1), (106, 109, zt_icmp_ne 112), (109, 111, zt_iload 5), (111, 112, zt_iret), (112, 114, zt_iload 4), (114, 115, zt_iload 3), (115, 118, zt_icmp_ne 122), (118, 119, zt_ic (-1)), (119, 122, zt_goto 124), (122, 124, zt_iload 4), (124, 125, zt_iret)]
theorem TX11_run_ok : ∀ i ∈ TX11_run, Ent mX11_run i := by
  refine List.forall_mem_cons.mpr ⟨ze_aload_n (k := 0) (by decide +kernel) rfl, ?_⟩
  refine List.forall_mem_cons.mpr ⟨ze_getL (by decide +kernel) fl_X11_48 rfl (by decide), ?_⟩
  refine List.forall_mem_cons.mpr ⟨ze_iload_n (k := 1) (by decide +kernel) rfl, ?_⟩
  refine List.forall_mem_cons.mpr ⟨ze_callVF (idx := 387) (by decide +kernel) ml_X11_387 mv_X6_has rfl, ?_⟩
  refine List.forall_mem_cons.mpr ⟨ze_if_eq (off := 19) (by decide +kernel) (by decide), ?_⟩
  refine List.forall_mem_cons.mpr ⟨ze_aload_n (k := 0) (by decide +kernel) rfl, ?_⟩
  refine List.forall_mem_cons.mpr ⟨ze_callVF (idx := 111) (by decide +kernel) ml_X11_111 mv_X11_noLoan rfl, ?_⟩
  refine List.forall_mem_cons.mpr ⟨ze_if_ne (off := 12) (by decide +kernel) (by decide), ?_⟩
  refine List.forall_mem_cons.mpr ⟨ze_iload_n (k := 2) (by decide +kernel) rfl, ?_⟩
  refine List.forall_mem_cons.mpr ⟨ze_if_lt (off := 8) (by decide +kernel) (by decide), ?_⟩
  refine List.forall_mem_cons.mpr ⟨ze_iload_n (k := 2) (by decide +kernel) rfl, ?_⟩
  refine List.forall_mem_cons.mpr ⟨ze_iconst (n := 1) (by decide +kernel) (by decide), ?_⟩
  refine List.forall_mem_cons.mpr ⟨ze_icmp_le (off := 7) (by decide +kernel) (by decide), ?_⟩
  refine List.forall_mem_cons.mpr ⟨ze_ldcw (i := 268) (by decide +kernel) kc_X11_268, ?_⟩
  refine List.forall_mem_cons.mpr ⟨ze_iret (by decide +kernel) rfl, ?_⟩
  refine List.forall_mem_cons.mpr ⟨ze_aload_n (k := 0) (by decide +kernel) rfl, ?_⟩
  refine List.forall_mem_cons.mpr ⟨ze_getL (by decide +kernel) fl_X11_17 rfl (by decide), ?_⟩
  refine List.forall_mem_cons.mpr ⟨ze_iconst (n := 0) (by decide +kernel) (by decide), ?_⟩
  refine List.forall_mem_cons.mpr ⟨ze_aload_n (k := 0) (by decide +kernel) rfl, ?_⟩
  refine List.forall_mem_cons.mpr ⟨ze_getL (by decide +kernel) fl_X11_20 rfl (by decide), ?_⟩
  refine List.forall_mem_cons.mpr ⟨ze_iconst (n := 0) (by decide +kernel) (by decide), ?_⟩
  refine List.forall_mem_cons.mpr ⟨ze_bipush (n := 115) (by decide +kernel) (by decide), ?_⟩
  refine List.forall_mem_cons.mpr ⟨ze_copyI (idx := 133) (by decide +kernel) ml_X11_133 jcp.1 jcp.2.1 jcp.2.2, ?_⟩
  refine List.forall_mem_cons.mpr ⟨ze_aload_n (k := 0) (by decide +kernel) rfl, ?_⟩
  refine List.forall_mem_cons.mpr ⟨ze_getL (by decide +kernel) fl_X11_48 rfl (by decide), ?_⟩
  refine List.forall_mem_cons.mpr ⟨ze_iload_n (k := 1) (by decide +kernel) rfl, ?_⟩
  refine List.forall_mem_cons.mpr ⟨ze_callVF (idx := 390) (by decide +kernel) ml_X11_390 mv_X6_sizeOf rfl, ?_⟩
  refine List.forall_mem_cons.mpr ⟨ze_istoreF_n (k := 3) (by decide +kernel) rfl (by decide), ?_⟩
  refine List.forall_mem_cons.mpr ⟨ze_iconst (n := 0) (by decide +kernel) (by decide), ?_⟩
  refine List.forall_mem_cons.mpr ⟨ze_istoreF (by decide +kernel) (by decide), ?_⟩
  refine List.forall_mem_cons.mpr ⟨ze_iload (by decide +kernel), ?_⟩
  refine List.forall_mem_cons.mpr ⟨ze_iload_n (k := 3) (by decide +kernel) rfl, ?_⟩
  refine List.forall_mem_cons.mpr ⟨ze_icmp_ge (off := 19) (by decide +kernel) (by decide), ?_⟩
  refine List.forall_mem_cons.mpr ⟨ze_aload_n (k := 0) (by decide +kernel) rfl, ?_⟩
  refine List.forall_mem_cons.mpr ⟨ze_iload_n (k := 1) (by decide +kernel) rfl, ?_⟩
  refine List.forall_mem_cons.mpr ⟨ze_iload (by decide +kernel), ?_⟩
  refine List.forall_mem_cons.mpr ⟨ze_callVF (idx := 395) (by decide +kernel) ml_X11_395 mv_X11_tries rfl, ?_⟩
  refine List.forall_mem_cons.mpr ⟨ze_if_eq (off := 9) (by decide +kernel) (by decide), ?_⟩
  refine List.forall_mem_cons.mpr ⟨ze_iincF (n := 1) (by decide +kernel) (by decide) (by decide), ?_⟩
  refine List.forall_mem_cons.mpr ⟨ze_goto (off := -19) (by decide +kernel) (by decide), ?_⟩
  refine List.forall_mem_cons.mpr ⟨ze_aload_n (k := 0) (by decide +kernel) rfl, ?_⟩
  refine List.forall_mem_cons.mpr ⟨ze_getL (by decide +kernel) fl_X11_17 rfl (by decide), ?_⟩
  refine List.forall_mem_cons.mpr ⟨ze_bipush (n := 6) (by decide +kernel) (by decide), ?_⟩
  refine List.forall_mem_cons.mpr ⟨ze_iald (by decide +kernel), ?_⟩
  refine List.forall_mem_cons.mpr ⟨ze_istoreF (by decide +kernel) (by decide), ?_⟩
  refine List.forall_mem_cons.mpr ⟨ze_aload_n (k := 0) (by decide +kernel) rfl, ?_⟩
  refine List.forall_mem_cons.mpr ⟨ze_getL (by decide +kernel) fl_X11_20 rfl (by decide), ?_⟩
  refine List.forall_mem_cons.mpr ⟨ze_iconst (n := 0) (by decide +kernel) (by decide), ?_⟩
  refine List.forall_mem_cons.mpr ⟨ze_aload_n (k := 0) (by decide +kernel) rfl, ?_⟩
  refine List.forall_mem_cons.mpr ⟨ze_getL (by decide +kernel) fl_X11_17 rfl (by decide), ?_⟩
  refine List.forall_mem_cons.mpr ⟨ze_iconst (n := 0) (by decide +kernel) (by decide), ?_⟩
  refine List.forall_mem_cons.mpr ⟨ze_bipush (n := 115) (by decide +kernel) (by decide), ?_⟩
  refine List.forall_mem_cons.mpr ⟨ze_copyI (idx := 133) (by decide +kernel) ml_X11_133 jcp.1 jcp.2.1 jcp.2.2, ?_⟩
  refine List.forall_mem_cons.mpr ⟨ze_iload_n (k := 2) (by decide +kernel) rfl, ?_⟩
  refine List.forall_mem_cons.mpr ⟨ze_iconst (n := 1) (by decide +kernel) (by decide), ?_⟩
  refine List.forall_mem_cons.mpr ⟨ze_icmp_ne (off := 6) (by decide +kernel) (by decide), ?_⟩
  refine List.forall_mem_cons.mpr ⟨ze_iload (by decide +kernel), ?_⟩
  refine List.forall_mem_cons.mpr ⟨ze_iret (by decide +kernel) rfl, ?_⟩
  refine List.forall_mem_cons.mpr ⟨ze_iload (by decide +kernel), ?_⟩
  refine List.forall_mem_cons.mpr ⟨ze_iload_n (k := 3) (by decide +kernel) rfl, ?_⟩
  refine List.forall_mem_cons.mpr ⟨ze_icmp_ne (off := 7) (by decide +kernel) (by decide), ?_⟩
  refine List.forall_mem_cons.mpr ⟨ze_iconst (n := -1) (by decide +kernel) (by decide), ?_⟩
  refine List.forall_mem_cons.mpr ⟨ze_goto (off := 5) (by decide +kernel) (by decide), ?_⟩
  refine List.forall_mem_cons.mpr ⟨ze_iload (by decide +kernel), ?_⟩
  refine List.forall_mem_cons.mpr ⟨ze_iret (by decide +kernel) rfl, ?_⟩
  exact fun _ h => absurd h List.not_mem_nil
theorem vX11_run {l : Launch} {G : GT} {d : Nat} {av : List Value} {Q : Po} {σ : Mm} (cs : List (Nat × List Nat)) (k : Nat) (h : vc l G d mX11_run TX11_run Q cs k TX11_run (lv_args 0 av) [] σ) (hlen : (lg_sl av).length ≤ mX11_run.2.2.1 := by exact Nat.le_of_ble_eq_true rfl) : MW l G d mX11_run av σ Q := mw_vc TX11_run_ok mc_X11_run rfl hlen cs k rfl h
theorem wX11_run {l : Launch} {G : GT} {d : Nat} {Q : Po} {pc : Nat} {lv : Lv} {st : List Value} {σ : Mm} (cs : List (Nat × List Nat)) (k : Nat) (h : vc l G d mX11_run TX11_run Q cs k (drp TX11_run pc) lv st σ) (hpc : hdp (drp TX11_run pc) = pc := by rfl) : Wp l G d mX11_run pc lv st σ Q := wp_vc TX11_run_ok cs k hpc h
def TX11_tries : List In := [(0, 1, zt_aload 0), (1, 4, zt_getL 19 9), (4, 5, zt_aload 0), (5, 8, zt_getL 19 7), (8, 9, zt_iload 1), (9, 10, zt_iload 2), (10, 11, zt_ic 0), (11, 14, zt_callVF mX6_number 3 14), (14, 15, zt_aload 0), (15, 18, zt_getL 19 7), (18, 19, zt_iload 1), (19, 20, zt_iload 2), (20, 21, zt_ic 1), (21, 24, zt_callVF mX6_number 3 14), (24, 25, zt_aload 0), (25, 28, zt_getL 19 7), (28, 29, zt_iload 1), (29, 30, zt_iload 2), (30, 31, zt_ic 2), (31, 34, zt_callVF mX6_number 3 14), (34, 35, zt_aload 0), (35, 38, zt_getL 19 7), (38, 39, zt_iload 1), (39, 40, zt_iload 2), (40, 41, zt_ic 3), (41, 44, zt_callVF mX6_number 3 14), (44, 47, zt_callVF mX3_attempt 4 12), (47, 50, zt_if_lt 54), (50, 51, zt_ic 1), (51, 54, zt_goto 55), (54, 55, zt_ic 0), (55, 56, zt_zret)]
theorem TX11_tries_ok : ∀ i ∈ TX11_tries, Ent mX11_tries i := by
  refine List.forall_mem_cons.mpr ⟨ze_aload_n (k := 0) (by decide +kernel) rfl, ?_⟩
  refine List.forall_mem_cons.mpr ⟨ze_getL (by decide +kernel) fl_X11_66 rfl (by decide), ?_⟩
  refine List.forall_mem_cons.mpr ⟨ze_aload_n (k := 0) (by decide +kernel) rfl, ?_⟩
  refine List.forall_mem_cons.mpr ⟨ze_getL (by decide +kernel) fl_X11_48 rfl (by decide), ?_⟩
  refine List.forall_mem_cons.mpr ⟨ze_iload_n (k := 1) (by decide +kernel) rfl, ?_⟩
  refine List.forall_mem_cons.mpr ⟨ze_iload_n (k := 2) (by decide +kernel) rfl, ?_⟩
  refine List.forall_mem_cons.mpr ⟨ze_iconst (n := 0) (by decide +kernel) (by decide), ?_⟩
  refine List.forall_mem_cons.mpr ⟨ze_callVF (idx := 393) (by decide +kernel) ml_X11_393 mv_X6_number rfl, ?_⟩
  refine List.forall_mem_cons.mpr ⟨ze_aload_n (k := 0) (by decide +kernel) rfl, ?_⟩
  refine List.forall_mem_cons.mpr ⟨ze_getL (by decide +kernel) fl_X11_48 rfl (by decide), ?_⟩
  refine List.forall_mem_cons.mpr ⟨ze_iload_n (k := 1) (by decide +kernel) rfl, ?_⟩
  refine List.forall_mem_cons.mpr ⟨ze_iload_n (k := 2) (by decide +kernel) rfl, ?_⟩
  refine List.forall_mem_cons.mpr ⟨ze_iconst (n := 1) (by decide +kernel) (by decide), ?_⟩
  refine List.forall_mem_cons.mpr ⟨ze_callVF (idx := 393) (by decide +kernel) ml_X11_393 mv_X6_number rfl, ?_⟩
  refine List.forall_mem_cons.mpr ⟨ze_aload_n (k := 0) (by decide +kernel) rfl, ?_⟩
  refine List.forall_mem_cons.mpr ⟨ze_getL (by decide +kernel) fl_X11_48 rfl (by decide), ?_⟩
  refine List.forall_mem_cons.mpr ⟨ze_iload_n (k := 1) (by decide +kernel) rfl, ?_⟩
  refine List.forall_mem_cons.mpr ⟨ze_iload_n (k := 2) (by decide +kernel) rfl, ?_⟩
  refine List.forall_mem_cons.mpr ⟨ze_iconst (n := 2) (by decide +kernel) (by decide), ?_⟩
  refine List.forall_mem_cons.mpr ⟨ze_callVF (idx := 393) (by decide +kernel) ml_X11_393 mv_X6_number rfl, ?_⟩
  refine List.forall_mem_cons.mpr ⟨ze_aload_n (k := 0) (by decide +kernel) rfl, ?_⟩
  refine List.forall_mem_cons.mpr ⟨ze_getL (by decide +kernel) fl_X11_48 rfl (by decide), ?_⟩
  refine List.forall_mem_cons.mpr ⟨ze_iload_n (k := 1) (by decide +kernel) rfl, ?_⟩
  refine List.forall_mem_cons.mpr ⟨ze_iload_n (k := 2) (by decide +kernel) rfl, ?_⟩
  refine List.forall_mem_cons.mpr ⟨ze_iconst (n := 3) (by decide +kernel) (by decide), ?_⟩
  refine List.forall_mem_cons.mpr ⟨ze_callVF (idx := 393) (by decide +kernel) ml_X11_393 mv_X6_number rfl, ?_⟩
  refine List.forall_mem_cons.mpr ⟨ze_callVF (idx := 233) (by decide +kernel) ml_X11_233 mv_X3_attempt rfl, ?_⟩
  refine List.forall_mem_cons.mpr ⟨ze_if_lt (off := 7) (by decide +kernel) (by decide), ?_⟩
  refine List.forall_mem_cons.mpr ⟨ze_iconst (n := 1) (by decide +kernel) (by decide), ?_⟩
  refine List.forall_mem_cons.mpr ⟨ze_goto (off := 4) (by decide +kernel) (by decide), ?_⟩
  refine List.forall_mem_cons.mpr ⟨ze_iconst (n := 0) (by decide +kernel) (by decide), ?_⟩
  refine List.forall_mem_cons.mpr ⟨ze_zret (by decide +kernel) rfl, ?_⟩
  exact fun _ h => absurd h List.not_mem_nil
theorem vX11_tries {l : Launch} {G : GT} {d : Nat} {av : List Value} {Q : Po} {σ : Mm} (cs : List (Nat × List Nat)) (k : Nat) (h : vc l G d mX11_tries TX11_tries Q cs k TX11_tries (lv_args 0 av) [] σ) (hlen : (lg_sl av).length ≤ mX11_tries.2.2.1 := by exact Nat.le_of_ble_eq_true rfl) : MW l G d mX11_tries av σ Q := mw_vc TX11_tries_ok mc_X11_tries rfl hlen cs k rfl h
theorem wX11_tries {l : Launch} {G : GT} {d : Nat} {Q : Po} {pc : Nat} {lv : Lv} {st : List Value} {σ : Mm} (cs : List (Nat × List Nat)) (k : Nat) (h : vc l G d mX11_tries TX11_tries Q cs k (drp TX11_tries pc) lv st σ) (hpc : hdp (drp TX11_tries pc) = pc := by rfl) : Wp l G d mX11_tries pc lv st σ Q := wp_vc TX11_tries_ok cs k hpc h
def TX11_perform : List In := [(0, 1, zt_aload 0), (1, 4, zt_getL 19 7), (4, 5, zt_iload 1), (5, 8, zt_callVF mX6_has 1 14), (8, 11, zt_if_eq 18), (11, 12, zt_aload 0), (12, 15, zt_callVF mX11_noLoan 0 19), (15, 18, zt_if_eq 20), (18, 19, zt_ic (-1)), (19, 20, zt_iret), (20, 21, zt_aload 0), (21, 24, zt_getL 19 7), (24, 25, zt_iload 1), (25, 28, zt_callVF mX6_sizeOf 1 14), (28, 29, zt_istoreF 2), (29, 30, zt_ic 0), (30, 31, zt_istoreF 3), (31, 32, zt_iload 3), (32, 33, zt_iload 2), (33, 36, zt_icmp_ge 96), (36, 37, zt_aload 0), (37, 38, zt_aload 0), (38, 41, zt_getL 19 7), (41, 42, zt_iload 1), (42, 43, zt_iload 3), (43, 44, zt_ic 0), (44, 47, zt_callVF mX6_number 3 14), (47, 48, zt_aload 0), (48, 51, zt_getL 19 7), (51, 52, zt_iload 1), (52, 53, zt_iload 3), (53, 54, zt_ic 1), (54, 57, zt_callVF mX6_number 3 14), (57, 58, zt_aload 0), (58, 61, zt_getL 19 7), (61, 62, zt_iload 1), (62, 63, zt_iload 3), (63, 64, zt_ic 2), (64, 67, zt_callVF mX6_number 3 14), (67, 68, zt_aload 0), (68, 71, zt_getL 19 7), (71, 72, zt_iload 1), (72, 73, zt_iload 3), (73, 74, zt_ic 3), (74, 77, zt_callVF mX6_number 3 14), (77, 78, zt_ic 0), (78, 81, zt_callVF mX11_act 5 19), (81, 83, zt_istoreF 4), (83, 85, zt_iload 4), (85, 88, zt_if_ge 90), (88, 89, zt_iload 3), (89, 90, zt_iret), (90, 93, zt_iincF 3 1), (93, 96, zt_goto 31), (96, 97, zt_iload 2), (97, 98, zt_iret)]
theorem TX11_perform_ok : ∀ i ∈ TX11_perform, Ent mX11_perform i := by
  refine List.forall_mem_cons.mpr ⟨ze_aload_n (k := 0) (by decide +kernel) rfl, ?_⟩
  refine List.forall_mem_cons.mpr ⟨ze_getL (by decide +kernel) fl_X11_48 rfl (by decide), ?_⟩
  refine List.forall_mem_cons.mpr ⟨ze_iload_n (k := 1) (by decide +kernel) rfl, ?_⟩
  refine List.forall_mem_cons.mpr ⟨ze_callVF (idx := 387) (by decide +kernel) ml_X11_387 mv_X6_has rfl, ?_⟩
  refine List.forall_mem_cons.mpr ⟨ze_if_eq (off := 10) (by decide +kernel) (by decide), ?_⟩
  refine List.forall_mem_cons.mpr ⟨ze_aload_n (k := 0) (by decide +kernel) rfl, ?_⟩
  refine List.forall_mem_cons.mpr ⟨ze_callVF (idx := 111) (by decide +kernel) ml_X11_111 mv_X11_noLoan rfl, ?_⟩
  refine List.forall_mem_cons.mpr ⟨ze_if_eq (off := 5) (by decide +kernel) (by decide), ?_⟩
  refine List.forall_mem_cons.mpr ⟨ze_iconst (n := -1) (by decide +kernel) (by decide), ?_⟩
  refine List.forall_mem_cons.mpr ⟨ze_iret (by decide +kernel) rfl, ?_⟩
  refine List.forall_mem_cons.mpr ⟨ze_aload_n (k := 0) (by decide +kernel) rfl, ?_⟩
  refine List.forall_mem_cons.mpr ⟨ze_getL (by decide +kernel) fl_X11_48 rfl (by decide), ?_⟩
  refine List.forall_mem_cons.mpr ⟨ze_iload_n (k := 1) (by decide +kernel) rfl, ?_⟩
  refine List.forall_mem_cons.mpr ⟨ze_callVF (idx := 390) (by decide +kernel) ml_X11_390 mv_X6_sizeOf rfl, ?_⟩
  refine List.forall_mem_cons.mpr ⟨ze_istoreF_n (k := 2) (by decide +kernel) rfl (by decide), ?_⟩
  refine List.forall_mem_cons.mpr ⟨ze_iconst (n := 0) (by decide +kernel) (by decide), ?_⟩
  refine List.forall_mem_cons.mpr ⟨ze_istoreF_n (k := 3) (by decide +kernel) rfl (by decide), ?_⟩
  refine List.forall_mem_cons.mpr ⟨ze_iload_n (k := 3) (by decide +kernel) rfl, ?_⟩
  refine List.forall_mem_cons.mpr ⟨ze_iload_n (k := 2) (by decide +kernel) rfl, ?_⟩
  refine List.forall_mem_cons.mpr ⟨ze_icmp_ge (off := 63) (by decide +kernel) (by decide), ?_⟩
  refine List.forall_mem_cons.mpr ⟨ze_aload_n (k := 0) (by decide +kernel) rfl, ?_⟩
  refine List.forall_mem_cons.mpr ⟨ze_aload_n (k := 0) (by decide +kernel) rfl, ?_⟩
  refine List.forall_mem_cons.mpr ⟨ze_getL (by decide +kernel) fl_X11_48 rfl (by decide), ?_⟩
  refine List.forall_mem_cons.mpr ⟨ze_iload_n (k := 1) (by decide +kernel) rfl, ?_⟩
  refine List.forall_mem_cons.mpr ⟨ze_iload_n (k := 3) (by decide +kernel) rfl, ?_⟩
  refine List.forall_mem_cons.mpr ⟨ze_iconst (n := 0) (by decide +kernel) (by decide), ?_⟩
  refine List.forall_mem_cons.mpr ⟨ze_callVF (idx := 393) (by decide +kernel) ml_X11_393 mv_X6_number rfl, ?_⟩
  refine List.forall_mem_cons.mpr ⟨ze_aload_n (k := 0) (by decide +kernel) rfl, ?_⟩
  refine List.forall_mem_cons.mpr ⟨ze_getL (by decide +kernel) fl_X11_48 rfl (by decide), ?_⟩
  refine List.forall_mem_cons.mpr ⟨ze_iload_n (k := 1) (by decide +kernel) rfl, ?_⟩
  refine List.forall_mem_cons.mpr ⟨ze_iload_n (k := 3) (by decide +kernel) rfl, ?_⟩
  refine List.forall_mem_cons.mpr ⟨ze_iconst (n := 1) (by decide +kernel) (by decide), ?_⟩
  refine List.forall_mem_cons.mpr ⟨ze_callVF (idx := 393) (by decide +kernel) ml_X11_393 mv_X6_number rfl, ?_⟩
  refine List.forall_mem_cons.mpr ⟨ze_aload_n (k := 0) (by decide +kernel) rfl, ?_⟩
  refine List.forall_mem_cons.mpr ⟨ze_getL (by decide +kernel) fl_X11_48 rfl (by decide), ?_⟩
  refine List.forall_mem_cons.mpr ⟨ze_iload_n (k := 1) (by decide +kernel) rfl, ?_⟩
  refine List.forall_mem_cons.mpr ⟨ze_iload_n (k := 3) (by decide +kernel) rfl, ?_⟩
  refine List.forall_mem_cons.mpr ⟨ze_iconst (n := 2) (by decide +kernel) (by decide), ?_⟩
  refine List.forall_mem_cons.mpr ⟨ze_callVF (idx := 393) (by decide +kernel) ml_X11_393 mv_X6_number rfl, ?_⟩
  refine List.forall_mem_cons.mpr ⟨ze_aload_n (k := 0) (by decide +kernel) rfl, ?_⟩
  refine List.forall_mem_cons.mpr ⟨ze_getL (by decide +kernel) fl_X11_48 rfl (by decide), ?_⟩
  refine List.forall_mem_cons.mpr ⟨ze_iload_n (k := 1) (by decide +kernel) rfl, ?_⟩
  refine List.forall_mem_cons.mpr ⟨ze_iload_n (k := 3) (by decide +kernel) rfl, ?_⟩
  refine List.forall_mem_cons.mpr ⟨ze_iconst (n := 3) (by decide +kernel) (by decide), ?_⟩
  refine List.forall_mem_cons.mpr ⟨ze_callVF (idx := 393) (by decide +kernel) ml_X11_393 mv_X6_number rfl, ?_⟩
  refine List.forall_mem_cons.mpr ⟨ze_iconst (n := 0) (by decide +kernel) (by decide), ?_⟩
  refine List.forall_mem_cons.mpr ⟨ze_callVF (idx := 226) (by decide +kernel) ml_X11_226 mv_X11_act rfl, ?_⟩
  refine List.forall_mem_cons.mpr ⟨ze_istoreF (by decide +kernel) (by decide), ?_⟩
  refine List.forall_mem_cons.mpr ⟨ze_iload (by decide +kernel), ?_⟩
  refine List.forall_mem_cons.mpr ⟨ze_if_ge (off := 5) (by decide +kernel) (by decide), ?_⟩
  refine List.forall_mem_cons.mpr ⟨ze_iload_n (k := 3) (by decide +kernel) rfl, ?_⟩
  refine List.forall_mem_cons.mpr ⟨ze_iret (by decide +kernel) rfl, ?_⟩
  refine List.forall_mem_cons.mpr ⟨ze_iincF (n := 1) (by decide +kernel) (by decide) (by decide), ?_⟩
  refine List.forall_mem_cons.mpr ⟨ze_goto (off := -62) (by decide +kernel) (by decide), ?_⟩
  refine List.forall_mem_cons.mpr ⟨ze_iload_n (k := 2) (by decide +kernel) rfl, ?_⟩
  refine List.forall_mem_cons.mpr ⟨ze_iret (by decide +kernel) rfl, ?_⟩
  exact fun _ h => absurd h List.not_mem_nil
theorem vX11_perform {l : Launch} {G : GT} {d : Nat} {av : List Value} {Q : Po} {σ : Mm} (cs : List (Nat × List Nat)) (k : Nat) (h : vc l G d mX11_perform TX11_perform Q cs k TX11_perform (lv_args 0 av) [] σ) (hlen : (lg_sl av).length ≤ mX11_perform.2.2.1 := by exact Nat.le_of_ble_eq_true rfl) : MW l G d mX11_perform av σ Q := mw_vc TX11_perform_ok mc_X11_perform rfl hlen cs k rfl h
theorem wX11_perform {l : Launch} {G : GT} {d : Nat} {Q : Po} {pc : Nat} {lv : Lv} {st : List Value} {σ : Mm} (cs : List (Nat × List Nat)) (k : Nat) (h : vc l G d mX11_perform TX11_perform Q cs k (drp TX11_perform pc) lv st σ) (hpc : hdp (drp TX11_perform pc) = pc := by rfl) : Wp l G d mX11_perform pc lv st σ Q := wp_vc TX11_perform_ok cs k hpc h
def TX11_most : List In := [(0, 1, zt_aload 0), (1, 4, zt_callVF mX11_noLoan 0 19), (4, 7, zt_if_ne 17), (7, 8, zt_iload 1), (8, 11, zt_if_lt 17), (11, 12, zt_iload 1), (12, 14, zt_ic 11), (14, 17, zt_icmp_le 21), (17, 20, zt_ic (-1000000 : Int32)), (20, 21, zt_iret), (21, 22, zt_iload 1), (22, 80, zt_tsw 0 10 [80, 88, 96, 104, 112, 119, 126, 131, 139, 146, 153] 161), (80, 81, zt_aload 0), (81, 84, zt_getL 19 1), (84, 86, zt_ic 6), (86, 87, zt_iald), (87, 88, zt_iret), (88, 89, zt_aload 0), (89, 92, zt_getL 19 1), (92, 94, zt_ic 7), (94, 95, zt_iald), (95, 96, zt_iret), (96, 97, zt_aload 0), (97, 100, zt_getL 19 1), (100, 102, zt_ic 8), (102, 103, zt_iald), (103, 104, zt_iret), (104, 105, zt_aload 0), (105, 108, zt_getL 19 1), (108, 110, zt_ic 9), (110, 111, zt_iald), (111, 112, zt_iret), (112, 113, zt_aload 0), (113, 116, zt_getL 19 1), (116, 117, zt_ic 0), (117, 118, zt_iald), (118, 119, zt_iret), (119, 120, zt_aload 0), (120, 123, zt_getL 19 1), (123, 124, zt_ic 1), (124, 125, zt_iald), (125, 126, zt_iret), (126, 127, zt_aload 0), (127, 130, zt_callVF mX11_leftNow 0 19), (130, 131, zt_iret), (131, 132, zt_aload 0), (132, 135, zt_getL 19 1), (135, 137, zt_ic 11), (137, 138, zt_iald), (138, 139, zt_iret), (139, 140, zt_aload 0), (140, 143, zt_getL 19 1), (143, 144, zt_ic 4), (144, 145, zt_iald), (145, 146, zt_iret), (146, 147, zt_aload 0), (147, 150, zt_getL 19 1), (150, 151, zt_ic 5), (151, 152, zt_iald), (152, 153, zt_iret), (153, 154, zt_aload 0), (154, 157, zt_getL 19 1), (157, 159, zt_ic 10), (159, 160, zt_iald), (160, 161, zt_iret), (161, 162, zt_aload 0), (162, 165, zt_callVF mX11_greatestRate 0 19), (165, 166, zt_iret)]
theorem TX11_most_ok : ∀ i ∈ TX11_most, Ent mX11_most i := by
  refine List.forall_mem_cons.mpr ⟨ze_aload_n (k := 0) (by decide +kernel) rfl, ?_⟩
  refine List.forall_mem_cons.mpr ⟨ze_callVF (idx := 111) (by decide +kernel) ml_X11_111 mv_X11_noLoan rfl, ?_⟩
  refine List.forall_mem_cons.mpr ⟨ze_if_ne (off := 13) (by decide +kernel) (by decide), ?_⟩
  refine List.forall_mem_cons.mpr ⟨ze_iload_n (k := 1) (by decide +kernel) rfl, ?_⟩
  refine List.forall_mem_cons.mpr ⟨ze_if_lt (off := 9) (by decide +kernel) (by decide), ?_⟩
  refine List.forall_mem_cons.mpr ⟨ze_iload_n (k := 1) (by decide +kernel) rfl, ?_⟩
  refine List.forall_mem_cons.mpr ⟨ze_bipush (n := 11) (by decide +kernel) (by decide), ?_⟩
  refine List.forall_mem_cons.mpr ⟨ze_icmp_le (off := 7) (by decide +kernel) (by decide), ?_⟩
  refine List.forall_mem_cons.mpr ⟨ze_ldcw (i := 268) (by decide +kernel) kc_X11_268, ?_⟩
  refine List.forall_mem_cons.mpr ⟨ze_iret (by decide +kernel) rfl, ?_⟩
  refine List.forall_mem_cons.mpr ⟨ze_iload_n (k := 1) (by decide +kernel) rfl, ?_⟩
  refine List.forall_mem_cons.mpr ⟨ze_tsw (len := 58) (df0 := 139) (offs := #[58, 66, 74, 82, 90, 97, 104, 109, 117, 124, 131]) (by decide +kernel) (by decide) (by decide +kernel) (by decide), ?_⟩
  refine List.forall_mem_cons.mpr ⟨ze_aload_n (k := 0) (by decide +kernel) rfl, ?_⟩
  refine List.forall_mem_cons.mpr ⟨ze_getL (by decide +kernel) fl_X11_17 rfl (by decide), ?_⟩
  refine List.forall_mem_cons.mpr ⟨ze_bipush (n := 6) (by decide +kernel) (by decide), ?_⟩
  refine List.forall_mem_cons.mpr ⟨ze_iald (by decide +kernel), ?_⟩
  refine List.forall_mem_cons.mpr ⟨ze_iret (by decide +kernel) rfl, ?_⟩
  refine List.forall_mem_cons.mpr ⟨ze_aload_n (k := 0) (by decide +kernel) rfl, ?_⟩
  refine List.forall_mem_cons.mpr ⟨ze_getL (by decide +kernel) fl_X11_17 rfl (by decide), ?_⟩
  refine List.forall_mem_cons.mpr ⟨ze_bipush (n := 7) (by decide +kernel) (by decide), ?_⟩
  refine List.forall_mem_cons.mpr ⟨ze_iald (by decide +kernel), ?_⟩
  refine List.forall_mem_cons.mpr ⟨ze_iret (by decide +kernel) rfl, ?_⟩
  refine List.forall_mem_cons.mpr ⟨ze_aload_n (k := 0) (by decide +kernel) rfl, ?_⟩
  refine List.forall_mem_cons.mpr ⟨ze_getL (by decide +kernel) fl_X11_17 rfl (by decide), ?_⟩
  refine List.forall_mem_cons.mpr ⟨ze_bipush (n := 8) (by decide +kernel) (by decide), ?_⟩
  refine List.forall_mem_cons.mpr ⟨ze_iald (by decide +kernel), ?_⟩
  refine List.forall_mem_cons.mpr ⟨ze_iret (by decide +kernel) rfl, ?_⟩
  refine List.forall_mem_cons.mpr ⟨ze_aload_n (k := 0) (by decide +kernel) rfl, ?_⟩
  refine List.forall_mem_cons.mpr ⟨ze_getL (by decide +kernel) fl_X11_17 rfl (by decide), ?_⟩
  refine List.forall_mem_cons.mpr ⟨ze_bipush (n := 9) (by decide +kernel) (by decide), ?_⟩
  refine List.forall_mem_cons.mpr ⟨ze_iald (by decide +kernel), ?_⟩
  refine List.forall_mem_cons.mpr ⟨ze_iret (by decide +kernel) rfl, ?_⟩
  refine List.forall_mem_cons.mpr ⟨ze_aload_n (k := 0) (by decide +kernel) rfl, ?_⟩
  refine List.forall_mem_cons.mpr ⟨ze_getL (by decide +kernel) fl_X11_17 rfl (by decide), ?_⟩
  refine List.forall_mem_cons.mpr ⟨ze_iconst (n := 0) (by decide +kernel) (by decide), ?_⟩
  refine List.forall_mem_cons.mpr ⟨ze_iald (by decide +kernel), ?_⟩
  refine List.forall_mem_cons.mpr ⟨ze_iret (by decide +kernel) rfl, ?_⟩
  refine List.forall_mem_cons.mpr ⟨ze_aload_n (k := 0) (by decide +kernel) rfl, ?_⟩
  refine List.forall_mem_cons.mpr ⟨ze_getL (by decide +kernel) fl_X11_17 rfl (by decide), ?_⟩
  refine List.forall_mem_cons.mpr ⟨ze_iconst (n := 1) (by decide +kernel) (by decide), ?_⟩
  refine List.forall_mem_cons.mpr ⟨ze_iald (by decide +kernel), ?_⟩
  refine List.forall_mem_cons.mpr ⟨ze_iret (by decide +kernel) rfl, ?_⟩
  refine List.forall_mem_cons.mpr ⟨ze_aload_n (k := 0) (by decide +kernel) rfl, ?_⟩
  refine List.forall_mem_cons.mpr ⟨ze_callVF (idx := 398) (by decide +kernel) ml_X11_398 mv_X11_leftNow rfl, ?_⟩
  refine List.forall_mem_cons.mpr ⟨ze_iret (by decide +kernel) rfl, ?_⟩
  refine List.forall_mem_cons.mpr ⟨ze_aload_n (k := 0) (by decide +kernel) rfl, ?_⟩
  refine List.forall_mem_cons.mpr ⟨ze_getL (by decide +kernel) fl_X11_17 rfl (by decide), ?_⟩
  refine List.forall_mem_cons.mpr ⟨ze_bipush (n := 11) (by decide +kernel) (by decide), ?_⟩
  refine List.forall_mem_cons.mpr ⟨ze_iald (by decide +kernel), ?_⟩
  refine List.forall_mem_cons.mpr ⟨ze_iret (by decide +kernel) rfl, ?_⟩
  refine List.forall_mem_cons.mpr ⟨ze_aload_n (k := 0) (by decide +kernel) rfl, ?_⟩
  refine List.forall_mem_cons.mpr ⟨ze_getL (by decide +kernel) fl_X11_17 rfl (by decide), ?_⟩
  refine List.forall_mem_cons.mpr ⟨ze_iconst (n := 4) (by decide +kernel) (by decide), ?_⟩
  refine List.forall_mem_cons.mpr ⟨ze_iald (by decide +kernel), ?_⟩
  refine List.forall_mem_cons.mpr ⟨ze_iret (by decide +kernel) rfl, ?_⟩
  refine List.forall_mem_cons.mpr ⟨ze_aload_n (k := 0) (by decide +kernel) rfl, ?_⟩
  refine List.forall_mem_cons.mpr ⟨ze_getL (by decide +kernel) fl_X11_17 rfl (by decide), ?_⟩
  refine List.forall_mem_cons.mpr ⟨ze_iconst (n := 5) (by decide +kernel) (by decide), ?_⟩
  refine List.forall_mem_cons.mpr ⟨ze_iald (by decide +kernel), ?_⟩
  refine List.forall_mem_cons.mpr ⟨ze_iret (by decide +kernel) rfl, ?_⟩
  refine List.forall_mem_cons.mpr ⟨ze_aload_n (k := 0) (by decide +kernel) rfl, ?_⟩
  refine List.forall_mem_cons.mpr ⟨ze_getL (by decide +kernel) fl_X11_17 rfl (by decide), ?_⟩
  refine List.forall_mem_cons.mpr ⟨ze_bipush (n := 10) (by decide +kernel) (by decide), ?_⟩
  refine List.forall_mem_cons.mpr ⟨ze_iald (by decide +kernel), ?_⟩
  refine List.forall_mem_cons.mpr ⟨ze_iret (by decide +kernel) rfl, ?_⟩
  refine List.forall_mem_cons.mpr ⟨ze_aload_n (k := 0) (by decide +kernel) rfl, ?_⟩
  refine List.forall_mem_cons.mpr ⟨ze_callVF (idx := 401) (by decide +kernel) ml_X11_401 mv_X11_greatestRate rfl, ?_⟩
  refine List.forall_mem_cons.mpr ⟨ze_iret (by decide +kernel) rfl, ?_⟩
  exact fun _ h => absurd h List.not_mem_nil
theorem vX11_most {l : Launch} {G : GT} {d : Nat} {av : List Value} {Q : Po} {σ : Mm} (cs : List (Nat × List Nat)) (k : Nat) (h : vc l G d mX11_most TX11_most Q cs k TX11_most (lv_args 0 av) [] σ) (hlen : (lg_sl av).length ≤ mX11_most.2.2.1 := by exact Nat.le_of_ble_eq_true rfl) : MW l G d mX11_most av σ Q := mw_vc TX11_most_ok mc_X11_most rfl hlen cs k rfl h
theorem wX11_most {l : Launch} {G : GT} {d : Nat} {Q : Po} {pc : Nat} {lv : Lv} {st : List Value} {σ : Mm} (cs : List (Nat × List Nat)) (k : Nat) (h : vc l G d mX11_most TX11_most Q cs k (drp TX11_most pc) lv st σ) (hpc : hdp (drp TX11_most pc) = pc := by rfl) : Wp l G d mX11_most pc lv st σ Q := wp_vc TX11_most_ok cs k hpc h
def TX11_leftNow : List In := [(0, 1, zt_aload 0), (1, 4, zt_getL 19 8), (4, 5, zt_aload 0), (5, 8, zt_getL 19 1), (8, 9, zt_ic 0), (9, 12, zt_callVF mX8_look 2 16), (12, 13, zt_aload 0), (13, 16, zt_getL 19 1), (16, 18, zt_ic 11), (18, 19, zt_iald), (19, 22, zt_if_eq 26), (22, 23, zt_ic 0), (23, 26, zt_goto 40), (26, 27, zt_aload 0), (27, 30, zt_getL 19 8), (30, 33, zt_getL 16 0), (33, 34, zt_aload 0), (34, 37, zt_getL 19 1), (37, 38, zt_ic 0), (38, 39, zt_iald), (39, 40, zt_iald), (40, 41, zt_iret)]
theorem TX11_leftNow_ok : ∀ i ∈ TX11_leftNow, Ent mX11_leftNow i := by
  refine List.forall_mem_cons.mpr ⟨ze_aload_n (k := 0) (by decide +kernel) rfl, ?_⟩
  refine List.forall_mem_cons.mpr ⟨ze_getL (by decide +kernel) fl_X11_57 rfl (by decide), ?_⟩
  refine List.forall_mem_cons.mpr ⟨ze_aload_n (k := 0) (by decide +kernel) rfl, ?_⟩
  refine List.forall_mem_cons.mpr ⟨ze_getL (by decide +kernel) fl_X11_17 rfl (by decide), ?_⟩
  refine List.forall_mem_cons.mpr ⟨ze_iconst (n := 0) (by decide +kernel) (by decide), ?_⟩
  refine List.forall_mem_cons.mpr ⟨ze_callVF (idx := 186) (by decide +kernel) ml_X11_186 mv_X8_look rfl, ?_⟩
  refine List.forall_mem_cons.mpr ⟨ze_aload_n (k := 0) (by decide +kernel) rfl, ?_⟩
  refine List.forall_mem_cons.mpr ⟨ze_getL (by decide +kernel) fl_X11_17 rfl (by decide), ?_⟩
  refine List.forall_mem_cons.mpr ⟨ze_bipush (n := 11) (by decide +kernel) (by decide), ?_⟩
  refine List.forall_mem_cons.mpr ⟨ze_iald (by decide +kernel), ?_⟩
  refine List.forall_mem_cons.mpr ⟨ze_if_eq (off := 7) (by decide +kernel) (by decide), ?_⟩
  refine List.forall_mem_cons.mpr ⟨ze_iconst (n := 0) (by decide +kernel) (by decide), ?_⟩
  refine List.forall_mem_cons.mpr ⟨ze_goto (off := 17) (by decide +kernel) (by decide), ?_⟩
  refine List.forall_mem_cons.mpr ⟨ze_aload_n (k := 0) (by decide +kernel) rfl, ?_⟩
  refine List.forall_mem_cons.mpr ⟨ze_getL (by decide +kernel) fl_X11_57 rfl (by decide), ?_⟩
  refine List.forall_mem_cons.mpr ⟨ze_getL (by decide +kernel) fl_X11_194 rfl (by decide), ?_⟩
  refine List.forall_mem_cons.mpr ⟨ze_aload_n (k := 0) (by decide +kernel) rfl, ?_⟩
  refine List.forall_mem_cons.mpr ⟨ze_getL (by decide +kernel) fl_X11_17 rfl (by decide), ?_⟩
  refine List.forall_mem_cons.mpr ⟨ze_iconst (n := 0) (by decide +kernel) (by decide), ?_⟩
  refine List.forall_mem_cons.mpr ⟨ze_iald (by decide +kernel), ?_⟩
  refine List.forall_mem_cons.mpr ⟨ze_iald (by decide +kernel), ?_⟩
  refine List.forall_mem_cons.mpr ⟨ze_iret (by decide +kernel) rfl, ?_⟩
  exact fun _ h => absurd h List.not_mem_nil
theorem vX11_leftNow {l : Launch} {G : GT} {d : Nat} {av : List Value} {Q : Po} {σ : Mm} (cs : List (Nat × List Nat)) (k : Nat) (h : vc l G d mX11_leftNow TX11_leftNow Q cs k TX11_leftNow (lv_args 0 av) [] σ) (hlen : (lg_sl av).length ≤ mX11_leftNow.2.2.1 := by exact Nat.le_of_ble_eq_true rfl) : MW l G d mX11_leftNow av σ Q := mw_vc TX11_leftNow_ok mc_X11_leftNow rfl hlen cs k rfl h
theorem wX11_leftNow {l : Launch} {G : GT} {d : Nat} {Q : Po} {pc : Nat} {lv : Lv} {st : List Value} {σ : Mm} (cs : List (Nat × List Nat)) (k : Nat) (h : vc l G d mX11_leftNow TX11_leftNow Q cs k (drp TX11_leftNow pc) lv st σ) (hpc : hdp (drp TX11_leftNow pc) = pc := by rfl) : Wp l G d mX11_leftNow pc lv st σ Q := wp_vc TX11_leftNow_ok cs k hpc h
def TX11_greatestRate : List In := [(0, 1, zt_ic 0), (1, 2, zt_istoreF 1), (2, 3, zt_ic 0), (3, 4, zt_istoreF 2), (4, 5, zt_iload 2), (5, 6, zt_aload 0), (6, 9, zt_getL 19 0), (9, 10, zt_ic 1), (10, 11, zt_iald), (11, 12, zt_ic 0), (12, 15, zt_callSF mX8_nodeOf 2), (15, 18, zt_icmp_ge 38), (18, 19, zt_iload 1), (19, 20, zt_aload 0), (20, 23, zt_getL 19 1), (23, 25, zt_ic 25), (25, 26, zt_iload 2), (26, 27, zt_iadd), (27, 28, zt_iald), (28, 31, zt_max), (31, 32, zt_istoreF 1), (32, 35, zt_iincF 2 1), (35, 38, zt_goto 4), (38, 39, zt_iload 1), (39, 40, zt_iret)]
theorem TX11_greatestRate_ok : ∀ i ∈ TX11_greatestRate, Ent mX11_greatestRate i := by
  refine List.forall_mem_cons.mpr ⟨ze_iconst (n := 0) (by decide +kernel) (by decide), ?_⟩
  refine List.forall_mem_cons.mpr ⟨ze_istoreF_n (k := 1) (by decide +kernel) rfl (by decide), ?_⟩
  refine List.forall_mem_cons.mpr ⟨ze_iconst (n := 0) (by decide +kernel) (by decide), ?_⟩
  refine List.forall_mem_cons.mpr ⟨ze_istoreF_n (k := 2) (by decide +kernel) rfl (by decide), ?_⟩
  refine List.forall_mem_cons.mpr ⟨ze_iload_n (k := 2) (by decide +kernel) rfl, ?_⟩
  refine List.forall_mem_cons.mpr ⟨ze_aload_n (k := 0) (by decide +kernel) rfl, ?_⟩
  refine List.forall_mem_cons.mpr ⟨ze_getL (by decide +kernel) fl_X11_9 rfl (by decide), ?_⟩
  refine List.forall_mem_cons.mpr ⟨ze_iconst (n := 1) (by decide +kernel) (by decide), ?_⟩
  refine List.forall_mem_cons.mpr ⟨ze_iald (by decide +kernel), ?_⟩
  refine List.forall_mem_cons.mpr ⟨ze_iconst (n := 0) (by decide +kernel) (by decide), ?_⟩
  refine List.forall_mem_cons.mpr ⟨ze_callSF (idx := 145) (by decide +kernel) ml_X11_145 ms_X8_nodeOf, ?_⟩
  refine List.forall_mem_cons.mpr ⟨ze_icmp_ge (off := 23) (by decide +kernel) (by decide), ?_⟩
  refine List.forall_mem_cons.mpr ⟨ze_iload_n (k := 1) (by decide +kernel) rfl, ?_⟩
  refine List.forall_mem_cons.mpr ⟨ze_aload_n (k := 0) (by decide +kernel) rfl, ?_⟩
  refine List.forall_mem_cons.mpr ⟨ze_getL (by decide +kernel) fl_X11_17 rfl (by decide), ?_⟩
  refine List.forall_mem_cons.mpr ⟨ze_bipush (n := 25) (by decide +kernel) (by decide), ?_⟩
  refine List.forall_mem_cons.mpr ⟨ze_iload_n (k := 2) (by decide +kernel) rfl, ?_⟩
  refine List.forall_mem_cons.mpr ⟨ze_iadd (by decide +kernel), ?_⟩
  refine List.forall_mem_cons.mpr ⟨ze_iald (by decide +kernel), ?_⟩
  refine List.forall_mem_cons.mpr ⟨ze_max (idx := 404) (by decide +kernel) ml_X11_404 jmx.1 jmx.2.1 jmx.2.2, ?_⟩
  refine List.forall_mem_cons.mpr ⟨ze_istoreF_n (k := 1) (by decide +kernel) rfl (by decide), ?_⟩
  refine List.forall_mem_cons.mpr ⟨ze_iincF (n := 1) (by decide +kernel) (by decide) (by decide), ?_⟩
  refine List.forall_mem_cons.mpr ⟨ze_goto (off := -31) (by decide +kernel) (by decide), ?_⟩
  refine List.forall_mem_cons.mpr ⟨ze_iload_n (k := 1) (by decide +kernel) rfl, ?_⟩
  refine List.forall_mem_cons.mpr ⟨ze_iret (by decide +kernel) rfl, ?_⟩
  exact fun _ h => absurd h List.not_mem_nil
theorem vX11_greatestRate {l : Launch} {G : GT} {d : Nat} {av : List Value} {Q : Po} {σ : Mm} (cs : List (Nat × List Nat)) (k : Nat) (h : vc l G d mX11_greatestRate TX11_greatestRate Q cs k TX11_greatestRate (lv_args 0 av) [] σ) (hlen : (lg_sl av).length ≤ mX11_greatestRate.2.2.1 := by exact Nat.le_of_ble_eq_true rfl) : MW l G d mX11_greatestRate av σ Q := mw_vc TX11_greatestRate_ok mc_X11_greatestRate rfl hlen cs k rfl h
theorem wX11_greatestRate {l : Launch} {G : GT} {d : Nat} {Q : Po} {pc : Nat} {lv : Lv} {st : List Value} {σ : Mm} (cs : List (Nat × List Nat)) (k : Nat) (h : vc l G d mX11_greatestRate TX11_greatestRate Q cs k (drp TX11_greatestRate pc) lv st σ) (hpc : hdp (drp TX11_greatestRate pc) = pc := by rfl) : Wp l G d mX11_greatestRate pc lv st σ Q := wp_vc TX11_greatestRate_ok cs k hpc h
def TX11_image : List In := [(0, 1, zt_aload 0), (1, 4, zt_callVF mX11_noLoan 0 19), (4, 7, zt_if_eq 9), (7, 8, zt_ic (-1)), (8, 9, zt_iret), (9, 10, zt_aload 0), (10, 13, zt_getL 19 10), (13, 14, zt_aload 0), (14, 17, zt_getL 19 1), (17, 20, zt_callVF mX2_keepImage 1 11), (20, 21, zt_aload 0), (21, 24, zt_getL 19 1), (24, 26, zt_ic 6), (26, 27, zt_iald), (27, 28, zt_iret)]
theorem TX11_image_ok : ∀ i ∈ TX11_image, Ent mX11_image i := by
  refine List.forall_mem_cons.mpr ⟨ze_aload_n (k := 0) (by decide +kernel) rfl, ?_⟩
  refine List.forall_mem_cons.mpr ⟨ze_callVF (idx := 111) (by decide +kernel) ml_X11_111 mv_X11_noLoan rfl, ?_⟩
  refine List.forall_mem_cons.mpr ⟨ze_if_eq (off := 5) (by decide +kernel) (by decide), ?_⟩
  refine List.forall_mem_cons.mpr ⟨ze_iconst (n := -1) (by decide +kernel) (by decide), ?_⟩
  refine List.forall_mem_cons.mpr ⟨ze_iret (by decide +kernel) rfl, ?_⟩
  refine List.forall_mem_cons.mpr ⟨ze_aload_n (k := 0) (by decide +kernel) rfl, ?_⟩
  refine List.forall_mem_cons.mpr ⟨ze_getL (by decide +kernel) fl_X11_73 rfl (by decide), ?_⟩
  refine List.forall_mem_cons.mpr ⟨ze_aload_n (k := 0) (by decide +kernel) rfl, ?_⟩
  refine List.forall_mem_cons.mpr ⟨ze_getL (by decide +kernel) fl_X11_17 rfl (by decide), ?_⟩
  refine List.forall_mem_cons.mpr ⟨ze_callVF (idx := 407) (by decide +kernel) ml_X11_407 mv_X2_keepImage rfl, ?_⟩
  refine List.forall_mem_cons.mpr ⟨ze_aload_n (k := 0) (by decide +kernel) rfl, ?_⟩
  refine List.forall_mem_cons.mpr ⟨ze_getL (by decide +kernel) fl_X11_17 rfl (by decide), ?_⟩
  refine List.forall_mem_cons.mpr ⟨ze_bipush (n := 6) (by decide +kernel) (by decide), ?_⟩
  refine List.forall_mem_cons.mpr ⟨ze_iald (by decide +kernel), ?_⟩
  refine List.forall_mem_cons.mpr ⟨ze_iret (by decide +kernel) rfl, ?_⟩
  exact fun _ h => absurd h List.not_mem_nil
theorem vX11_image {l : Launch} {G : GT} {d : Nat} {av : List Value} {Q : Po} {σ : Mm} (cs : List (Nat × List Nat)) (k : Nat) (h : vc l G d mX11_image TX11_image Q cs k TX11_image (lv_args 0 av) [] σ) (hlen : (lg_sl av).length ≤ mX11_image.2.2.1 := by exact Nat.le_of_ble_eq_true rfl) : MW l G d mX11_image av σ Q := mw_vc TX11_image_ok mc_X11_image rfl hlen cs k rfl h
theorem wX11_image {l : Launch} {G : GT} {d : Nat} {Q : Po} {pc : Nat} {lv : Lv} {st : List Value} {σ : Mm} (cs : List (Nat × List Nat)) (k : Nat) (h : vc l G d mX11_image TX11_image Q cs k (drp TX11_image pc) lv st σ) (hpc : hdp (drp TX11_image pc) = pc := by rfl) : Wp l G d mX11_image pc lv st σ Q := wp_vc TX11_image_ok cs k hpc h
def TX11_back : List In := [(0, 1, zt_aload 0), (1, 4, zt_getL 19 10), (4, 5, zt_aload 0), (5, 8, zt_getL 19 1), (8, 11, zt_callVF mX2_bringBack 1 11), (11, 14, zt_if_eq 24), (14, 15, zt_aload 0), (15, 18, zt_getL 19 1), (18, 20, zt_ic 6), (20, 21, zt_iald), (21, 24, zt_goto 25), (24, 25, zt_ic (-1)), (25, 26, zt_iret)]
theorem TX11_back_ok : ∀ i ∈ TX11_back, Ent mX11_back i := by
  refine List.forall_mem_cons.mpr ⟨ze_aload_n (k := 0) (by decide +kernel) rfl, ?_⟩
  refine List.forall_mem_cons.mpr ⟨ze_getL (by decide +kernel) fl_X11_73 rfl (by decide), ?_⟩
  refine List.forall_mem_cons.mpr ⟨ze_aload_n (k := 0) (by decide +kernel) rfl, ?_⟩
  refine List.forall_mem_cons.mpr ⟨ze_getL (by decide +kernel) fl_X11_17 rfl (by decide), ?_⟩
  refine List.forall_mem_cons.mpr ⟨ze_callVF (idx := 410) (by decide +kernel) ml_X11_410 mv_X2_bringBack rfl, ?_⟩
  refine List.forall_mem_cons.mpr ⟨ze_if_eq (off := 13) (by decide +kernel) (by decide), ?_⟩
  refine List.forall_mem_cons.mpr ⟨ze_aload_n (k := 0) (by decide +kernel) rfl, ?_⟩
  refine List.forall_mem_cons.mpr ⟨ze_getL (by decide +kernel) fl_X11_17 rfl (by decide), ?_⟩
  refine List.forall_mem_cons.mpr ⟨ze_bipush (n := 6) (by decide +kernel) (by decide), ?_⟩
  refine List.forall_mem_cons.mpr ⟨ze_iald (by decide +kernel), ?_⟩
  refine List.forall_mem_cons.mpr ⟨ze_goto (off := 4) (by decide +kernel) (by decide), ?_⟩
  refine List.forall_mem_cons.mpr ⟨ze_iconst (n := -1) (by decide +kernel) (by decide), ?_⟩
  refine List.forall_mem_cons.mpr ⟨ze_iret (by decide +kernel) rfl, ?_⟩
  exact fun _ h => absurd h List.not_mem_nil
theorem vX11_back {l : Launch} {G : GT} {d : Nat} {av : List Value} {Q : Po} {σ : Mm} (cs : List (Nat × List Nat)) (k : Nat) (h : vc l G d mX11_back TX11_back Q cs k TX11_back (lv_args 0 av) [] σ) (hlen : (lg_sl av).length ≤ mX11_back.2.2.1 := by exact Nat.le_of_ble_eq_true rfl) : MW l G d mX11_back av σ Q := mw_vc TX11_back_ok mc_X11_back rfl hlen cs k rfl h
theorem wX11_back {l : Launch} {G : GT} {d : Nat} {Q : Po} {pc : Nat} {lv : Lv} {st : List Value} {σ : Mm} (cs : List (Nat × List Nat)) (k : Nat) (h : vc l G d mX11_back TX11_back Q cs k (drp TX11_back pc) lv st σ) (hpc : hdp (drp TX11_back pc) = pc := by rfl) : Wp l G d mX11_back pc lv st σ Q := wp_vc TX11_back_ok cs k hpc h
def TX11_count : List In := [(0, 1, zt_iload 1), (1, 36, zt_tsw 0 4 [36, 43, 51, 59, 67] 75), (36, 37, zt_aload 0), (37, 40, zt_getL 19 0), (40, 41, zt_ic 1), (41, 42, zt_iald), (42, 43, zt_iret), (43, 44, zt_aload 0), (44, 47, zt_getL 19 7), (47, 50, zt_getI 14 2), (50, 51, zt_iret), (51, 52, zt_aload 0), (52, 55, zt_getL 19 5), (55, 58, zt_getI 17 1), (58, 59, zt_iret), (59, 60, zt_aload 0), (60, 63, zt_getL 19 10), (63, 66, zt_callVF mX2_shown 0 11), (66, 67, zt_iret), (67, 68, zt_aload 0), (68, 71, zt_getL 19 10), (71, 74, zt_getI 11 0), (74, 75, zt_iret), (75, 78, zt_ic (-1000000 : Int32)), (78, 79, zt_iret)]
theorem TX11_count_ok : ∀ i ∈ TX11_count, Ent mX11_count i := by
  refine List.forall_mem_cons.mpr ⟨ze_iload_n (k := 1) (by decide +kernel) rfl, ?_⟩
  refine List.forall_mem_cons.mpr ⟨ze_tsw (len := 35) (df0 := 74) (offs := #[35, 42, 50, 58, 66]) (by decide +kernel) (by decide) (by decide +kernel) (by decide), ?_⟩
  refine List.forall_mem_cons.mpr ⟨ze_aload_n (k := 0) (by decide +kernel) rfl, ?_⟩
  refine List.forall_mem_cons.mpr ⟨ze_getL (by decide +kernel) fl_X11_9 rfl (by decide), ?_⟩
  refine List.forall_mem_cons.mpr ⟨ze_iconst (n := 1) (by decide +kernel) (by decide), ?_⟩
  refine List.forall_mem_cons.mpr ⟨ze_iald (by decide +kernel), ?_⟩
  refine List.forall_mem_cons.mpr ⟨ze_iret (by decide +kernel) rfl, ?_⟩
  refine List.forall_mem_cons.mpr ⟨ze_aload_n (k := 0) (by decide +kernel) rfl, ?_⟩
  refine List.forall_mem_cons.mpr ⟨ze_getL (by decide +kernel) fl_X11_48 rfl (by decide), ?_⟩
  refine List.forall_mem_cons.mpr ⟨ze_getI (by decide +kernel) fl_X11_108 rfl, ?_⟩
  refine List.forall_mem_cons.mpr ⟨ze_iret (by decide +kernel) rfl, ?_⟩
  refine List.forall_mem_cons.mpr ⟨ze_aload_n (k := 0) (by decide +kernel) rfl, ?_⟩
  refine List.forall_mem_cons.mpr ⟨ze_getL (by decide +kernel) fl_X11_32 rfl (by decide), ?_⟩
  refine List.forall_mem_cons.mpr ⟨ze_getI (by decide +kernel) fl_X11_97 rfl, ?_⟩
  refine List.forall_mem_cons.mpr ⟨ze_iret (by decide +kernel) rfl, ?_⟩
  refine List.forall_mem_cons.mpr ⟨ze_aload_n (k := 0) (by decide +kernel) rfl, ?_⟩
  refine List.forall_mem_cons.mpr ⟨ze_getL (by decide +kernel) fl_X11_73 rfl (by decide), ?_⟩
  refine List.forall_mem_cons.mpr ⟨ze_callVF (idx := 265) (by decide +kernel) ml_X11_265 mv_X2_shown rfl, ?_⟩
  refine List.forall_mem_cons.mpr ⟨ze_iret (by decide +kernel) rfl, ?_⟩
  refine List.forall_mem_cons.mpr ⟨ze_aload_n (k := 0) (by decide +kernel) rfl, ?_⟩
  refine List.forall_mem_cons.mpr ⟨ze_getL (by decide +kernel) fl_X11_73 rfl (by decide), ?_⟩
  refine List.forall_mem_cons.mpr ⟨ze_getI (by decide +kernel) fl_X11_262 rfl, ?_⟩
  refine List.forall_mem_cons.mpr ⟨ze_iret (by decide +kernel) rfl, ?_⟩
  refine List.forall_mem_cons.mpr ⟨ze_ldcw (i := 268) (by decide +kernel) kc_X11_268, ?_⟩
  refine List.forall_mem_cons.mpr ⟨ze_iret (by decide +kernel) rfl, ?_⟩
  exact fun _ h => absurd h List.not_mem_nil
theorem vX11_count {l : Launch} {G : GT} {d : Nat} {av : List Value} {Q : Po} {σ : Mm} (cs : List (Nat × List Nat)) (k : Nat) (h : vc l G d mX11_count TX11_count Q cs k TX11_count (lv_args 0 av) [] σ) (hlen : (lg_sl av).length ≤ mX11_count.2.2.1 := by exact Nat.le_of_ble_eq_true rfl) : MW l G d mX11_count av σ Q := mw_vc TX11_count_ok mc_X11_count rfl hlen cs k rfl h
theorem wX11_count {l : Launch} {G : GT} {d : Nat} {Q : Po} {pc : Nat} {lv : Lv} {st : List Value} {σ : Mm} (cs : List (Nat × List Nat)) (k : Nat) (h : vc l G d mX11_count TX11_count Q cs k (drp TX11_count pc) lv st σ) (hpc : hdp (drp TX11_count pc) = pc := by rfl) : Wp l G d mX11_count pc lv st σ Q := wp_vc TX11_count_ok cs k hpc h
def TX11_noLoan : List In := [(0, 1, zt_aload 0), (1, 4, zt_getL 19 0), (4, 5, zt_ic 1), (5, 6, zt_iald), (6, 9, zt_if_ne 13), (9, 10, zt_ic 1), (10, 13, zt_goto 14), (13, 14, zt_ic 0), (14, 15, zt_zret)]
theorem TX11_noLoan_ok : ∀ i ∈ TX11_noLoan, Ent mX11_noLoan i := by
  refine List.forall_mem_cons.mpr ⟨ze_aload_n (k := 0) (by decide +kernel) rfl, ?_⟩
  refine List.forall_mem_cons.mpr ⟨ze_getL (by decide +kernel) fl_X11_9 rfl (by decide), ?_⟩
  refine List.forall_mem_cons.mpr ⟨ze_iconst (n := 1) (by decide +kernel) (by decide), ?_⟩
  refine List.forall_mem_cons.mpr ⟨ze_iald (by decide +kernel), ?_⟩
  refine List.forall_mem_cons.mpr ⟨ze_if_ne (off := 7) (by decide +kernel) (by decide), ?_⟩
  refine List.forall_mem_cons.mpr ⟨ze_iconst (n := 1) (by decide +kernel) (by decide), ?_⟩
  refine List.forall_mem_cons.mpr ⟨ze_goto (off := 4) (by decide +kernel) (by decide), ?_⟩
  refine List.forall_mem_cons.mpr ⟨ze_iconst (n := 0) (by decide +kernel) (by decide), ?_⟩
  refine List.forall_mem_cons.mpr ⟨ze_zret (by decide +kernel) rfl, ?_⟩
  exact fun _ h => absurd h List.not_mem_nil
theorem vX11_noLoan {l : Launch} {G : GT} {d : Nat} {av : List Value} {Q : Po} {σ : Mm} (cs : List (Nat × List Nat)) (k : Nat) (h : vc l G d mX11_noLoan TX11_noLoan Q cs k TX11_noLoan (lv_args 0 av) [] σ) (hlen : (lg_sl av).length ≤ mX11_noLoan.2.2.1 := by exact Nat.le_of_ble_eq_true rfl) : MW l G d mX11_noLoan av σ Q := mw_vc TX11_noLoan_ok mc_X11_noLoan rfl hlen cs k rfl h
theorem wX11_noLoan {l : Launch} {G : GT} {d : Nat} {Q : Po} {pc : Nat} {lv : Lv} {st : List Value} {σ : Mm} (cs : List (Nat × List Nat)) (k : Nat) (h : vc l G d mX11_noLoan TX11_noLoan Q cs k (drp TX11_noLoan pc) lv st σ) (hpc : hdp (drp TX11_noLoan pc) = pc := by rfl) : Wp l G d mX11_noLoan pc lv st σ Q := wp_vc TX11_noLoan_ok cs k hpc h
def TX11_closed : List In := [(0, 1, zt_aload 0), (1, 4, zt_callVF mX11_noLoan 0 19), (4, 7, zt_if_ne 17), (7, 8, zt_aload 0), (8, 11, zt_getL 19 1), (11, 13, zt_ic 11), (13, 14, zt_iald), (14, 17, zt_if_eq 21), (17, 18, zt_ic 1), (18, 21, zt_goto 22), (21, 22, zt_ic 0), (22, 23, zt_zret)]
theorem TX11_closed_ok : ∀ i ∈ TX11_closed, Ent mX11_closed i := by
  refine List.forall_mem_cons.mpr ⟨ze_aload_n (k := 0) (by decide +kernel) rfl, ?_⟩
  refine List.forall_mem_cons.mpr ⟨ze_callVF (idx := 111) (by decide +kernel) ml_X11_111 mv_X11_noLoan rfl, ?_⟩
  refine List.forall_mem_cons.mpr ⟨ze_if_ne (off := 13) (by decide +kernel) (by decide), ?_⟩
  refine List.forall_mem_cons.mpr ⟨ze_aload_n (k := 0) (by decide +kernel) rfl, ?_⟩
  refine List.forall_mem_cons.mpr ⟨ze_getL (by decide +kernel) fl_X11_17 rfl (by decide), ?_⟩
  refine List.forall_mem_cons.mpr ⟨ze_bipush (n := 11) (by decide +kernel) (by decide), ?_⟩
  refine List.forall_mem_cons.mpr ⟨ze_iald (by decide +kernel), ?_⟩
  refine List.forall_mem_cons.mpr ⟨ze_if_eq (off := 7) (by decide +kernel) (by decide), ?_⟩
  refine List.forall_mem_cons.mpr ⟨ze_iconst (n := 1) (by decide +kernel) (by decide), ?_⟩
  refine List.forall_mem_cons.mpr ⟨ze_goto (off := 4) (by decide +kernel) (by decide), ?_⟩
  refine List.forall_mem_cons.mpr ⟨ze_iconst (n := 0) (by decide +kernel) (by decide), ?_⟩
  refine List.forall_mem_cons.mpr ⟨ze_zret (by decide +kernel) rfl, ?_⟩
  exact fun _ h => absurd h List.not_mem_nil
theorem vX11_closed {l : Launch} {G : GT} {d : Nat} {av : List Value} {Q : Po} {σ : Mm} (cs : List (Nat × List Nat)) (k : Nat) (h : vc l G d mX11_closed TX11_closed Q cs k TX11_closed (lv_args 0 av) [] σ) (hlen : (lg_sl av).length ≤ mX11_closed.2.2.1 := by exact Nat.le_of_ble_eq_true rfl) : MW l G d mX11_closed av σ Q := mw_vc TX11_closed_ok mc_X11_closed rfl hlen cs k rfl h
theorem wX11_closed {l : Launch} {G : GT} {d : Nat} {Q : Po} {pc : Nat} {lv : Lv} {st : List Value} {σ : Mm} (cs : List (Nat × List Nat)) (k : Nat) (h : vc l G d mX11_closed TX11_closed Q cs k (drp TX11_closed pc) lv st σ) (hpc : hdp (drp TX11_closed pc) = pc := by rfl) : Wp l G d mX11_closed pc lv st σ Q := wp_vc TX11_closed_ok cs k hpc h
def TX11_isNode : List In := [(0, 1, zt_iload 1), (1, 4, zt_if_lt 27), (4, 5, zt_iload 1), (5, 6, zt_aload 0), (6, 9, zt_getL 19 0), (9, 10, zt_ic 1), (10, 11, zt_iald), (11, 14, zt_icmp_ge 27), (14, 15, zt_iload 2), (15, 18, zt_if_lt 27), (18, 19, zt_iload 2), (19, 20, zt_iload 1), (20, 23, zt_icmp_gt 27), (23, 24, zt_ic 1), (24, 27, zt_goto 28), (27, 28, zt_ic 0), (28, 29, zt_zret)]
theorem TX11_isNode_ok : ∀ i ∈ TX11_isNode, Ent mX11_isNode i := by
  refine List.forall_mem_cons.mpr ⟨ze_iload_n (k := 1) (by decide +kernel) rfl, ?_⟩
  refine List.forall_mem_cons.mpr ⟨ze_if_lt (off := 26) (by decide +kernel) (by decide), ?_⟩
  refine List.forall_mem_cons.mpr ⟨ze_iload_n (k := 1) (by decide +kernel) rfl, ?_⟩
  refine List.forall_mem_cons.mpr ⟨ze_aload_n (k := 0) (by decide +kernel) rfl, ?_⟩
  refine List.forall_mem_cons.mpr ⟨ze_getL (by decide +kernel) fl_X11_9 rfl (by decide), ?_⟩
  refine List.forall_mem_cons.mpr ⟨ze_iconst (n := 1) (by decide +kernel) (by decide), ?_⟩
  refine List.forall_mem_cons.mpr ⟨ze_iald (by decide +kernel), ?_⟩
  refine List.forall_mem_cons.mpr ⟨ze_icmp_ge (off := 16) (by decide +kernel) (by decide), ?_⟩
  refine List.forall_mem_cons.mpr ⟨ze_iload_n (k := 2) (by decide +kernel) rfl, ?_⟩
  refine List.forall_mem_cons.mpr ⟨ze_if_lt (off := 12) (by decide +kernel) (by decide), ?_⟩
  refine List.forall_mem_cons.mpr ⟨ze_iload_n (k := 2) (by decide +kernel) rfl, ?_⟩
  refine List.forall_mem_cons.mpr ⟨ze_iload_n (k := 1) (by decide +kernel) rfl, ?_⟩
  refine List.forall_mem_cons.mpr ⟨ze_icmp_gt (off := 7) (by decide +kernel) (by decide), ?_⟩
  refine List.forall_mem_cons.mpr ⟨ze_iconst (n := 1) (by decide +kernel) (by decide), ?_⟩
  refine List.forall_mem_cons.mpr ⟨ze_goto (off := 4) (by decide +kernel) (by decide), ?_⟩
  refine List.forall_mem_cons.mpr ⟨ze_iconst (n := 0) (by decide +kernel) (by decide), ?_⟩
  refine List.forall_mem_cons.mpr ⟨ze_zret (by decide +kernel) rfl, ?_⟩
  exact fun _ h => absurd h List.not_mem_nil
theorem vX11_isNode {l : Launch} {G : GT} {d : Nat} {av : List Value} {Q : Po} {σ : Mm} (cs : List (Nat × List Nat)) (k : Nat) (h : vc l G d mX11_isNode TX11_isNode Q cs k TX11_isNode (lv_args 0 av) [] σ) (hlen : (lg_sl av).length ≤ mX11_isNode.2.2.1 := by exact Nat.le_of_ble_eq_true rfl) : MW l G d mX11_isNode av σ Q := mw_vc TX11_isNode_ok mc_X11_isNode rfl hlen cs k rfl h
theorem wX11_isNode {l : Launch} {G : GT} {d : Nat} {Q : Po} {pc : Nat} {lv : Lv} {st : List Value} {σ : Mm} (cs : List (Nat × List Nat)) (k : Nat) (h : vc l G d mX11_isNode TX11_isNode Q cs k (drp TX11_isNode pc) lv st σ) (hpc : hdp (drp TX11_isNode pc) = pc := by rfl) : Wp l G d mX11_isNode pc lv st σ Q := wp_vc TX11_isNode_ok cs k hpc h
def TX11_here : List In := [(0, 1, zt_aload 0), (1, 4, zt_getL 19 1), (4, 5, zt_ic 0), (5, 6, zt_iald), (6, 7, zt_aload 0), (7, 10, zt_getL 19 1), (10, 11, zt_ic 1), (11, 12, zt_iald), (12, 15, zt_callSF mX8_nodeOf 2), (15, 16, zt_iret)]
theorem TX11_here_ok : ∀ i ∈ TX11_here, Ent mX11_here i := by
  refine List.forall_mem_cons.mpr ⟨ze_aload_n (k := 0) (by decide +kernel) rfl, ?_⟩
  refine List.forall_mem_cons.mpr ⟨ze_getL (by decide +kernel) fl_X11_17 rfl (by decide), ?_⟩
  refine List.forall_mem_cons.mpr ⟨ze_iconst (n := 0) (by decide +kernel) (by decide), ?_⟩
  refine List.forall_mem_cons.mpr ⟨ze_iald (by decide +kernel), ?_⟩
  refine List.forall_mem_cons.mpr ⟨ze_aload_n (k := 0) (by decide +kernel) rfl, ?_⟩
  refine List.forall_mem_cons.mpr ⟨ze_getL (by decide +kernel) fl_X11_17 rfl (by decide), ?_⟩
  refine List.forall_mem_cons.mpr ⟨ze_iconst (n := 1) (by decide +kernel) (by decide), ?_⟩
  refine List.forall_mem_cons.mpr ⟨ze_iald (by decide +kernel), ?_⟩
  refine List.forall_mem_cons.mpr ⟨ze_callSF (idx := 145) (by decide +kernel) ml_X11_145 ms_X8_nodeOf, ?_⟩
  refine List.forall_mem_cons.mpr ⟨ze_iret (by decide +kernel) rfl, ?_⟩
  exact fun _ h => absurd h List.not_mem_nil
theorem vX11_here {l : Launch} {G : GT} {d : Nat} {av : List Value} {Q : Po} {σ : Mm} (cs : List (Nat × List Nat)) (k : Nat) (h : vc l G d mX11_here TX11_here Q cs k TX11_here (lv_args 0 av) [] σ) (hlen : (lg_sl av).length ≤ mX11_here.2.2.1 := by exact Nat.le_of_ble_eq_true rfl) : MW l G d mX11_here av σ Q := mw_vc TX11_here_ok mc_X11_here rfl hlen cs k rfl h
theorem wX11_here {l : Launch} {G : GT} {d : Nat} {Q : Po} {pc : Nat} {lv : Lv} {st : List Value} {σ : Mm} (cs : List (Nat × List Nat)) (k : Nat) (h : vc l G d mX11_here TX11_here Q cs k (drp TX11_here pc) lv st σ) (hpc : hdp (drp TX11_here pc) = pc := by rfl) : Wp l G d mX11_here pc lv st σ Q := wp_vc TX11_here_ok cs k hpc h
