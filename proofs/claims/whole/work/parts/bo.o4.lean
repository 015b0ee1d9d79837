-- constructors (by gen_ctor.py)
theorem mb_X7_19 {l : Launch} {G : GT} (hg : GN G) {S : List (Nat × Nat)} (hlo : loS S 20) : MB l G 1 11 825 mX7_init [.ref 19] S 20 ([(19, 4), (27, 2), (27, 1), (27, 0), (19, 3), (23, 2), (23, 1), (23, 0), (19, 2), (19, 1), (19, 0)] ++ S) 31 := by
  refine mb_of mc_X7_init rfl rfl (by decide) hlo ?_
  refine bp_aload (k := 0) (by decide +kernel) rfl ?_
  refine bp_obj (idx := 1) (by decide +kernel) (gw (i := 108) (by decide +kernel) rfl) ob_1 ob_2 ⟨by decide, by decide⟩ ?_
  refine bp_aload (k := 0) (by decide +kernel) rfl ?_
  refine bp_bipush (z := 91) (v := 91) (by decide +kernel) (by decide) ?_
  refine bp_int (N := 91) hg (by decide +kernel) (gw (i := 47) (by decide +kernel) rfl) (by decide +kernel) (by decide) (by decide +kernel) (by decide +kernel) ?_
  refine bp_put hg (by decide +kernel) fl_X7_9 fb_X7_0 (by decide +kernel) (by decide +kernel) (by decide +kernel) (by decide +kernel) ?_
  refine bp_aload (k := 0) (by decide +kernel) rfl ?_
  refine bp_bipush (z := 91) (v := 91) (by decide +kernel) (by decide) ?_
  refine bp_int (N := 91) hg (by decide +kernel) (gw (i := 47) (by decide +kernel) rfl) (by decide +kernel) (by decide) (by decide +kernel) (by decide +kernel) ?_
  refine bp_put hg (by decide +kernel) fl_X7_15 fb_X7_1 (by decide +kernel) (by decide +kernel) (by decide +kernel) (by decide +kernel) ?_
  refine bp_aload (k := 0) (by decide +kernel) rfl ?_
  refine bp_bipush (z := 91) (v := 91) (by decide +kernel) (by decide) ?_
  refine bp_int (N := 91) hg (by decide +kernel) (gw (i := 47) (by decide +kernel) rfl) (by decide +kernel) (by decide) (by decide +kernel) (by decide +kernel) ?_
  refine bp_put hg (by decide +kernel) fl_X7_18 fb_X7_2 (by decide +kernel) (by decide +kernel) (by decide +kernel) (by decide +kernel) ?_
  refine bp_aload (k := 0) (by decide +kernel) rfl ?_
  refine bp_iconst (z := 3) (v := 3) (by decide +kernel) (by decide) ?_
  refine bp_bipush (z := 91) (v := 91) (by decide +kernel) (by decide) ?_
  refine bp_multi (index := 21) (N := 3) (K := 91) hg (by decide +kernel) (gw (i := 109) (by decide +kernel) rfl) (by decide +kernel) (by decide +kernel) ⟨by decide, by decide⟩ (by decide +kernel) (by decide +kernel) (by decide) (by decide +kernel) ?_
  refine bp_put hg (by decide +kernel) fl_X7_23 fb_X7_3 (by decide +kernel) (by decide +kernel) (by decide +kernel) (by decide +kernel) ?_
  refine bp_aload (k := 0) (by decide +kernel) rfl ?_
  refine bp_iconst (z := 3) (v := 3) (by decide +kernel) (by decide) ?_
  refine bp_bipush (z := 91) (v := 91) (by decide +kernel) (by decide) ?_
  refine bp_multi (index := 21) (N := 3) (K := 91) hg (by decide +kernel) (gw (i := 109) (by decide +kernel) rfl) (by decide +kernel) (by decide +kernel) ⟨by decide, by decide⟩ (by decide +kernel) (by decide +kernel) (by decide) (by decide +kernel) ?_
  refine bp_put hg (by decide +kernel) fl_X7_26 fb_X7_4 (by decide +kernel) (by decide +kernel) (by decide +kernel) (by decide +kernel) ?_
  exact bp_ret rfl (by decide +kernel)
theorem mb_X7_31 {l : Launch} {G : GT} (hg : GN G) {S : List (Nat × Nat)} (hlo : loS S 32) : MB l G 1 11 825 mX7_init [.ref 31] S 32 ([(31, 4), (39, 2), (39, 1), (39, 0), (31, 3), (35, 2), (35, 1), (35, 0), (31, 2), (31, 1), (31, 0)] ++ S) 43 := by
  refine mb_of mc_X7_init rfl rfl (by decide) hlo ?_
  refine bp_aload (k := 0) (by decide +kernel) rfl ?_
  refine bp_obj (idx := 1) (by decide +kernel) (gw (i := 108) (by decide +kernel) rfl) ob_1 ob_2 ⟨by decide, by decide⟩ ?_
  refine bp_aload (k := 0) (by decide +kernel) rfl ?_
  refine bp_bipush (z := 91) (v := 91) (by decide +kernel) (by decide) ?_
  refine bp_int (N := 91) hg (by decide +kernel) (gw (i := 47) (by decide +kernel) rfl) (by decide +kernel) (by decide) (by decide +kernel) (by decide +kernel) ?_
  refine bp_put hg (by decide +kernel) fl_X7_9 fb_X7_0 (by decide +kernel) (by decide +kernel) (by decide +kernel) (by decide +kernel) ?_
  refine bp_aload (k := 0) (by decide +kernel) rfl ?_
  refine bp_bipush (z := 91) (v := 91) (by decide +kernel) (by decide) ?_
  refine bp_int (N := 91) hg (by decide +kernel) (gw (i := 47) (by decide +kernel) rfl) (by decide +kernel) (by decide) (by decide +kernel) (by decide +kernel) ?_
  refine bp_put hg (by decide +kernel) fl_X7_15 fb_X7_1 (by decide +kernel) (by decide +kernel) (by decide +kernel) (by decide +kernel) ?_
  refine bp_aload (k := 0) (by decide +kernel) rfl ?_
  refine bp_bipush (z := 91) (v := 91) (by decide +kernel) (by decide) ?_
  refine bp_int (N := 91) hg (by decide +kernel) (gw (i := 47) (by decide +kernel) rfl) (by decide +kernel) (by decide) (by decide +kernel) (by decide +kernel) ?_
  refine bp_put hg (by decide +kernel) fl_X7_18 fb_X7_2 (by decide +kernel) (by decide +kernel) (by decide +kernel) (by decide +kernel) ?_
  refine bp_aload (k := 0) (by decide +kernel) rfl ?_
  refine bp_iconst (z := 3) (v := 3) (by decide +kernel) (by decide) ?_
  refine bp_bipush (z := 91) (v := 91) (by decide +kernel) (by decide) ?_
  refine bp_multi (index := 21) (N := 3) (K := 91) hg (by decide +kernel) (gw (i := 109) (by decide +kernel) rfl) (by decide +kernel) (by decide +kernel) ⟨by decide, by decide⟩ (by decide +kernel) (by decide +kernel) (by decide) (by decide +kernel) ?_
  refine bp_put hg (by decide +kernel) fl_X7_23 fb_X7_3 (by decide +kernel) (by decide +kernel) (by decide +kernel) (by decide +kernel) ?_
  refine bp_aload (k := 0) (by decide +kernel) rfl ?_
  refine bp_iconst (z := 3) (v := 3) (by decide +kernel) (by decide) ?_
  refine bp_bipush (z := 91) (v := 91) (by decide +kernel) (by decide) ?_
  refine bp_multi (index := 21) (N := 3) (K := 91) hg (by decide +kernel) (gw (i := 109) (by decide +kernel) rfl) (by decide +kernel) (by decide +kernel) ⟨by decide, by decide⟩ (by decide +kernel) (by decide +kernel) (by decide) (by decide +kernel) ?_
  refine bp_put hg (by decide +kernel) fl_X7_26 fb_X7_4 (by decide +kernel) (by decide +kernel) (by decide +kernel) (by decide +kernel) ?_
  exact bp_ret rfl (by decide +kernel)
theorem mb_X7_43 {l : Launch} {G : GT} (hg : GN G) {S : List (Nat × Nat)} (hlo : loS S 44) : MB l G 1 11 825 mX7_init [.ref 43] S 44 ([(43, 4), (51, 2), (51, 1), (51, 0), (43, 3), (47, 2), (47, 1), (47, 0), (43, 2), (43, 1), (43, 0)] ++ S) 55 := by
  refine mb_of mc_X7_init rfl rfl (by decide) hlo ?_
  refine bp_aload (k := 0) (by decide +kernel) rfl ?_
  refine bp_obj (idx := 1) (by decide +kernel) (gw (i := 108) (by decide +kernel) rfl) ob_1 ob_2 ⟨by decide, by decide⟩ ?_
  refine bp_aload (k := 0) (by decide +kernel) rfl ?_
  refine bp_bipush (z := 91) (v := 91) (by decide +kernel) (by decide) ?_
  refine bp_int (N := 91) hg (by decide +kernel) (gw (i := 47) (by decide +kernel) rfl) (by decide +kernel) (by decide) (by decide +kernel) (by decide +kernel) ?_
  refine bp_put hg (by decide +kernel) fl_X7_9 fb_X7_0 (by decide +kernel) (by decide +kernel) (by decide +kernel) (by decide +kernel) ?_
  refine bp_aload (k := 0) (by decide +kernel) rfl ?_
  refine bp_bipush (z := 91) (v := 91) (by decide +kernel) (by decide) ?_
  refine bp_int (N := 91) hg (by decide +kernel) (gw (i := 47) (by decide +kernel) rfl) (by decide +kernel) (by decide) (by decide +kernel) (by decide +kernel) ?_
  refine bp_put hg (by decide +kernel) fl_X7_15 fb_X7_1 (by decide +kernel) (by decide +kernel) (by decide +kernel) (by decide +kernel) ?_
  refine bp_aload (k := 0) (by decide +kernel) rfl ?_
  refine bp_bipush (z := 91) (v := 91) (by decide +kernel) (by decide) ?_
  refine bp_int (N := 91) hg (by decide +kernel) (gw (i := 47) (by decide +kernel) rfl) (by decide +kernel) (by decide) (by decide +kernel) (by decide +kernel) ?_
  refine bp_put hg (by decide +kernel) fl_X7_18 fb_X7_2 (by decide +kernel) (by decide +kernel) (by decide +kernel) (by decide +kernel) ?_
  refine bp_aload (k := 0) (by decide +kernel) rfl ?_
  refine bp_iconst (z := 3) (v := 3) (by decide +kernel) (by decide) ?_
  refine bp_bipush (z := 91) (v := 91) (by decide +kernel) (by decide) ?_
  refine bp_multi (index := 21) (N := 3) (K := 91) hg (by decide +kernel) (gw (i := 109) (by decide +kernel) rfl) (by decide +kernel) (by decide +kernel) ⟨by decide, by decide⟩ (by decide +kernel) (by decide +kernel) (by decide) (by decide +kernel) ?_
  refine bp_put hg (by decide +kernel) fl_X7_23 fb_X7_3 (by decide +kernel) (by decide +kernel) (by decide +kernel) (by decide +kernel) ?_
  refine bp_aload (k := 0) (by decide +kernel) rfl ?_
  refine bp_iconst (z := 3) (v := 3) (by decide +kernel) (by decide) ?_
  refine bp_bipush (z := 91) (v := 91) (by decide +kernel) (by decide) ?_
  refine bp_multi (index := 21) (N := 3) (K := 91) hg (by decide +kernel) (gw (i := 109) (by decide +kernel) rfl) (by decide +kernel) (by decide +kernel) ⟨by decide, by decide⟩ (by decide +kernel) (by decide +kernel) (by decide) (by decide +kernel) ?_
  refine bp_put hg (by decide +kernel) fl_X7_26 fb_X7_4 (by decide +kernel) (by decide +kernel) (by decide +kernel) (by decide +kernel) ?_
  exact bp_ret rfl (by decide +kernel)
theorem mb_X7_72 {l : Launch} {G : GT} (hg : GN G) {S : List (Nat × Nat)} (hlo : loS S 73) : MB l G 1 11 825 mX7_init [.ref 72] S 73 ([(72, 4), (80, 2), (80, 1), (80, 0), (72, 3), (76, 2), (76, 1), (76, 0), (72, 2), (72, 1), (72, 0)] ++ S) 84 := by
  refine mb_of mc_X7_init rfl rfl (by decide) hlo ?_
  refine bp_aload (k := 0) (by decide +kernel) rfl ?_
  refine bp_obj (idx := 1) (by decide +kernel) (gw (i := 108) (by decide +kernel) rfl) ob_1 ob_2 ⟨by decide, by decide⟩ ?_
  refine bp_aload (k := 0) (by decide +kernel) rfl ?_
  refine bp_bipush (z := 91) (v := 91) (by decide +kernel) (by decide) ?_
  refine bp_int (N := 91) hg (by decide +kernel) (gw (i := 47) (by decide +kernel) rfl) (by decide +kernel) (by decide) (by decide +kernel) (by decide +kernel) ?_
  refine bp_put hg (by decide +kernel) fl_X7_9 fb_X7_0 (by decide +kernel) (by decide +kernel) (by decide +kernel) (by decide +kernel) ?_
  refine bp_aload (k := 0) (by decide +kernel) rfl ?_
  refine bp_bipush (z := 91) (v := 91) (by decide +kernel) (by decide) ?_
  refine bp_int (N := 91) hg (by decide +kernel) (gw (i := 47) (by decide +kernel) rfl) (by decide +kernel) (by decide) (by decide +kernel) (by decide +kernel) ?_
  refine bp_put hg (by decide +kernel) fl_X7_15 fb_X7_1 (by decide +kernel) (by decide +kernel) (by decide +kernel) (by decide +kernel) ?_
  refine bp_aload (k := 0) (by decide +kernel) rfl ?_
  refine bp_bipush (z := 91) (v := 91) (by decide +kernel) (by decide) ?_
  refine bp_int (N := 91) hg (by decide +kernel) (gw (i := 47) (by decide +kernel) rfl) (by decide +kernel) (by decide) (by decide +kernel) (by decide +kernel) ?_
  refine bp_put hg (by decide +kernel) fl_X7_18 fb_X7_2 (by decide +kernel) (by decide +kernel) (by decide +kernel) (by decide +kernel) ?_
  refine bp_aload (k := 0) (by decide +kernel) rfl ?_
  refine bp_iconst (z := 3) (v := 3) (by decide +kernel) (by decide) ?_
  refine bp_bipush (z := 91) (v := 91) (by decide +kernel) (by decide) ?_
  refine bp_multi (index := 21) (N := 3) (K := 91) hg (by decide +kernel) (gw (i := 109) (by decide +kernel) rfl) (by decide +kernel) (by decide +kernel) ⟨by decide, by decide⟩ (by decide +kernel) (by decide +kernel) (by decide) (by decide +kernel) ?_
  refine bp_put hg (by decide +kernel) fl_X7_23 fb_X7_3 (by decide +kernel) (by decide +kernel) (by decide +kernel) (by decide +kernel) ?_
  refine bp_aload (k := 0) (by decide +kernel) rfl ?_
  refine bp_iconst (z := 3) (v := 3) (by decide +kernel) (by decide) ?_
  refine bp_bipush (z := 91) (v := 91) (by decide +kernel) (by decide) ?_
  refine bp_multi (index := 21) (N := 3) (K := 91) hg (by decide +kernel) (gw (i := 109) (by decide +kernel) rfl) (by decide +kernel) (by decide +kernel) ⟨by decide, by decide⟩ (by decide +kernel) (by decide +kernel) (by decide) (by decide +kernel) ?_
  refine bp_put hg (by decide +kernel) fl_X7_26 fb_X7_4 (by decide +kernel) (by decide +kernel) (by decide +kernel) (by decide +kernel) ?_
  exact bp_ret rfl (by decide +kernel)
theorem mb_X7_84 {l : Launch} {G : GT} (hg : GN G) {S : List (Nat × Nat)} (hlo : loS S 85) : MB l G 1 11 825 mX7_init [.ref 84] S 85 ([(84, 4), (92, 2), (92, 1), (92, 0), (84, 3), (88, 2), (88, 1), (88, 0), (84, 2), (84, 1), (84, 0)] ++ S) 96 := by
  refine mb_of mc_X7_init rfl rfl (by decide) hlo ?_
  refine bp_aload (k := 0) (by decide +kernel) rfl ?_
  refine bp_obj (idx := 1) (by decide +kernel) (gw (i := 108) (by decide +kernel) rfl) ob_1 ob_2 ⟨by decide, by decide⟩ ?_
  refine bp_aload (k := 0) (by decide +kernel) rfl ?_
  refine bp_bipush (z := 91) (v := 91) (by decide +kernel) (by decide) ?_
  refine bp_int (N := 91) hg (by decide +kernel) (gw (i := 47) (by decide +kernel) rfl) (by decide +kernel) (by decide) (by decide +kernel) (by decide +kernel) ?_
  refine bp_put hg (by decide +kernel) fl_X7_9 fb_X7_0 (by decide +kernel) (by decide +kernel) (by decide +kernel) (by decide +kernel) ?_
  refine bp_aload (k := 0) (by decide +kernel) rfl ?_
  refine bp_bipush (z := 91) (v := 91) (by decide +kernel) (by decide) ?_
  refine bp_int (N := 91) hg (by decide +kernel) (gw (i := 47) (by decide +kernel) rfl) (by decide +kernel) (by decide) (by decide +kernel) (by decide +kernel) ?_
  refine bp_put hg (by decide +kernel) fl_X7_15 fb_X7_1 (by decide +kernel) (by decide +kernel) (by decide +kernel) (by decide +kernel) ?_
  refine bp_aload (k := 0) (by decide +kernel) rfl ?_
  refine bp_bipush (z := 91) (v := 91) (by decide +kernel) (by decide) ?_
  refine bp_int (N := 91) hg (by decide +kernel) (gw (i := 47) (by decide +kernel) rfl) (by decide +kernel) (by decide) (by decide +kernel) (by decide +kernel) ?_
  refine bp_put hg (by decide +kernel) fl_X7_18 fb_X7_2 (by decide +kernel) (by decide +kernel) (by decide +kernel) (by decide +kernel) ?_
  refine bp_aload (k := 0) (by decide +kernel) rfl ?_
  refine bp_iconst (z := 3) (v := 3) (by decide +kernel) (by decide) ?_
  refine bp_bipush (z := 91) (v := 91) (by decide +kernel) (by decide) ?_
  refine bp_multi (index := 21) (N := 3) (K := 91) hg (by decide +kernel) (gw (i := 109) (by decide +kernel) rfl) (by decide +kernel) (by decide +kernel) ⟨by decide, by decide⟩ (by decide +kernel) (by decide +kernel) (by decide) (by decide +kernel) ?_
  refine bp_put hg (by decide +kernel) fl_X7_23 fb_X7_3 (by decide +kernel) (by decide +kernel) (by decide +kernel) (by decide +kernel) ?_
  refine bp_aload (k := 0) (by decide +kernel) rfl ?_
  refine bp_iconst (z := 3) (v := 3) (by decide +kernel) (by decide) ?_
  refine bp_bipush (z := 91) (v := 91) (by decide +kernel) (by decide) ?_
  refine bp_multi (index := 21) (N := 3) (K := 91) hg (by decide +kernel) (gw (i := 109) (by decide +kernel) rfl) (by decide +kernel) (by decide +kernel) ⟨by decide, by decide⟩ (by decide +kernel) (by decide +kernel) (by decide) (by decide +kernel) ?_
  refine bp_put hg (by decide +kernel) fl_X7_26 fb_X7_4 (by decide +kernel) (by decide +kernel) (by decide +kernel) (by decide +kernel) ?_
  exact bp_ret rfl (by decide +kernel)
theorem mb_X8_15 {l : Launch} {G : GT} (hg : GN G) {S : List (Nat × Nat)} (hlo : loS S 16) : MB l G 2 47 2971 mX8_init [.ref 15, .ref 1] S 16 ([(15, 6), (15, 10), (15, 9), (59, 1), (59, 0), (15, 8), (56, 1), (56, 0), (15, 7), (15, 5), (43, 4), (51, 2), (51, 1), (51, 0), (43, 3), (47, 2), (47, 1), (47, 0), (43, 2), (43, 1), (43, 0), (15, 4), (31, 4), (39, 2), (39, 1), (39, 0), (31, 3), (35, 2), (35, 1), (35, 0), (31, 2), (31, 1), (31, 0), (15, 3), (19, 4), (27, 2), (27, 1), (27, 0), (19, 3), (23, 2), (23, 1), (23, 0), (19, 2), (19, 1), (19, 0), (15, 2), (15, 1), (15, 0)] ++ S) 63 := by
  refine mb_of mc_X8_init rfl rfl (by decide) hlo ?_
  refine bp_aload (k := 0) (by decide +kernel) rfl ?_
  refine bp_obj (idx := 3) (by decide +kernel) (gw (i := 102) (by decide +kernel) rfl) ob_1 ob_2 ⟨by decide, by decide⟩ ?_
  refine bp_aload (k := 0) (by decide +kernel) rfl ?_
  refine bp_bipush (z := 13) (v := 13) (by decide +kernel) (by decide) ?_
  refine bp_int (N := 13) hg (by decide +kernel) (gw (i := 47) (by decide +kernel) rfl) (by decide +kernel) (by decide) (by decide +kernel) (by decide +kernel) ?_
  refine bp_put hg (by decide +kernel) fl_X8_9 fb_X8_0 (by decide +kernel) (by decide +kernel) (by decide +kernel) (by decide +kernel) ?_
  refine bp_aload (k := 0) (by decide +kernel) rfl ?_
  refine bp_bipush (z := 13) (v := 13) (by decide +kernel) (by decide) ?_
  refine bp_int (N := 13) hg (by decide +kernel) (gw (i := 47) (by decide +kernel) rfl) (by decide +kernel) (by decide) (by decide +kernel) (by decide +kernel) ?_
  refine bp_put hg (by decide +kernel) fl_X8_15 fb_X8_1 (by decide +kernel) (by decide +kernel) (by decide +kernel) (by decide +kernel) ?_
  refine bp_aload (k := 0) (by decide +kernel) rfl ?_
  refine bp_bipush (z := 13) (v := 13) (by decide +kernel) (by decide) ?_
  refine bp_int (N := 13) hg (by decide +kernel) (gw (i := 47) (by decide +kernel) rfl) (by decide +kernel) (by decide) (by decide +kernel) (by decide +kernel) ?_
  refine bp_put hg (by decide +kernel) fl_X8_18 fb_X8_2 (by decide +kernel) (by decide +kernel) (by decide +kernel) (by decide +kernel) ?_
  refine bp_aload (k := 0) (by decide +kernel) rfl ?_
  refine bp_new (index := 21) (Cn := RX7) (T := TX7) (N := 8) (ci := 5) hg (by decide +kernel) (gw (i := 103) (by decide +kernel) rfl) (gw (i := 104) (by decide +kernel) rfl) (gw (i := 6) (by decide +kernel) rfl) rfl inW7 tyX7 tyX7_ok (by decide +kernel) (by decide +kernel) (by decide +kernel) ?_
  refine bp_dup (by decide +kernel) ?_
  refine bp_call (idx := 23) (host := RX11) (M' := mX7_init) (a := 19) (av := []) (rest := [.ref 19, .ref 15]) (by decide +kernel) mc_X7_init (by unfold MeN; decide +kernel) (gw (i := 106) (by decide +kernel) rfl) rfl rfl (Or.inr (fun U q => (hg.2 U q).2.2.2.2.1)) rfl ⟨rfl, by decide⟩ (by decide +kernel) (fun h => mb_X7_19 hg h) (fun h => loS_app (by decide +kernel) (by decide) h) ?_
  refine bp_put hg (by decide +kernel) fl_X8_24 fb_X8_3 (by decide +kernel) (by decide +kernel) (by decide +kernel) (by decide +kernel) ?_
  refine bp_aload (k := 0) (by decide +kernel) rfl ?_
  refine bp_new (index := 21) (Cn := RX7) (T := TX7) (N := 8) (ci := 5) hg (by decide +kernel) (gw (i := 103) (by decide +kernel) rfl) (gw (i := 104) (by decide +kernel) rfl) (gw (i := 6) (by decide +kernel) rfl) rfl inW7 tyX7 tyX7_ok (by decide +kernel) (by decide +kernel) (by decide +kernel) ?_
  refine bp_dup (by decide +kernel) ?_
  refine bp_call (idx := 23) (host := RX11) (M' := mX7_init) (a := 31) (av := []) (rest := [.ref 31, .ref 15]) (by decide +kernel) mc_X7_init (by unfold MeN; decide +kernel) (gw (i := 106) (by decide +kernel) rfl) rfl rfl (Or.inr (fun U q => (hg.2 U q).2.2.2.2.1)) rfl ⟨rfl, by decide⟩ (by decide +kernel) (fun h => mb_X7_31 hg h) (fun h => loS_app (by decide +kernel) (by decide) h) ?_
  refine bp_put hg (by decide +kernel) fl_X8_28 fb_X8_4 (by decide +kernel) (by decide +kernel) (by decide +kernel) (by decide +kernel) ?_
  refine bp_aload (k := 0) (by decide +kernel) rfl ?_
  refine bp_new (index := 21) (Cn := RX7) (T := TX7) (N := 8) (ci := 5) hg (by decide +kernel) (gw (i := 103) (by decide +kernel) rfl) (gw (i := 104) (by decide +kernel) rfl) (gw (i := 6) (by decide +kernel) rfl) rfl inW7 tyX7 tyX7_ok (by decide +kernel) (by decide +kernel) (by decide +kernel) ?_
  refine bp_dup (by decide +kernel) ?_
  refine bp_call (idx := 23) (host := RX11) (M' := mX7_init) (a := 43) (av := []) (rest := [.ref 43, .ref 15]) (by decide +kernel) mc_X7_init (by unfold MeN; decide +kernel) (gw (i := 106) (by decide +kernel) rfl) rfl rfl (Or.inr (fun U q => (hg.2 U q).2.2.2.2.1)) rfl ⟨rfl, by decide⟩ (by decide +kernel) (fun h => mb_X7_43 hg h) (fun h => loS_app (by decide +kernel) (by decide) h) ?_
  refine bp_put hg (by decide +kernel) fl_X8_31 fb_X8_5 (by decide +kernel) (by decide +kernel) (by decide +kernel) (by decide +kernel) ?_
  refine bp_aload (k := 0) (by decide +kernel) rfl ?_
  refine bp_bipush (z := 115) (v := 115) (by decide +kernel) (by decide) ?_
  refine bp_int (N := 115) hg (by decide +kernel) (gw (i := 47) (by decide +kernel) rfl) (by decide +kernel) (by decide) (by decide +kernel) (by decide +kernel) ?_
  refine bp_put hg (by decide +kernel) fl_X8_36 fb_X8_7 (by decide +kernel) (by decide +kernel) (by decide +kernel) (by decide +kernel) ?_
  refine bp_aload (k := 0) (by decide +kernel) rfl ?_
  refine bp_iconst (z := 2) (v := 2) (by decide +kernel) (by decide) ?_
  refine bp_bipush (z := 78) (v := 78) (by decide +kernel) (by decide) ?_
  refine bp_multi (index := 39) (N := 2) (K := 78) hg (by decide +kernel) (gw (i := 153) (by decide +kernel) rfl) (by decide +kernel) (by decide +kernel) ⟨by decide, by decide⟩ (by decide +kernel) (by decide +kernel) (by decide) (by decide +kernel) ?_
  refine bp_put hg (by decide +kernel) fl_X8_41 fb_X8_8 (by decide +kernel) (by decide +kernel) (by decide +kernel) (by decide +kernel) ?_
  refine bp_aload (k := 0) (by decide +kernel) rfl ?_
  refine bp_iconst (z := 2) (v := 2) (by decide +kernel) (by decide) ?_
  refine bp_bipush (z := 78) (v := 78) (by decide +kernel) (by decide) ?_
  refine bp_multi (index := 39) (N := 2) (K := 78) hg (by decide +kernel) (gw (i := 153) (by decide +kernel) rfl) (by decide +kernel) (by decide +kernel) ⟨by decide, by decide⟩ (by decide +kernel) (by decide +kernel) (by decide) (by decide +kernel) ?_
  refine bp_put hg (by decide +kernel) fl_X8_44 fb_X8_9 (by decide +kernel) (by decide +kernel) (by decide +kernel) (by decide +kernel) ?_
  refine bp_aload (k := 0) (by decide +kernel) rfl ?_
  refine bp_iconst (z := 2) (v := 2) (by decide +kernel) (by decide) ?_
  refine bp_int (N := 2) hg (by decide +kernel) (gw (i := 47) (by decide +kernel) rfl) (by decide +kernel) (by decide) (by decide +kernel) (by decide +kernel) ?_
  refine bp_put hg (by decide +kernel) fl_X8_47 fb_X8_10 (by decide +kernel) (by decide +kernel) (by decide +kernel) (by decide +kernel) ?_
  refine bp_aload (k := 0) (by decide +kernel) rfl ?_
  refine bp_aload (k := 1) (by decide +kernel) rfl ?_
  refine bp_put hg (by decide +kernel) fl_X8_50 fb_X8_6 (by decide +kernel) (by decide +kernel) (by decide +kernel) (by decide +kernel) ?_
  exact bp_ret rfl (by decide +kernel)
theorem mb_X10_69 {l : Launch} {G : GT} (hg : GN G) {S : List (Nat × Nat)} (hlo : loS S 70) (hm : (15, 4) ∈ S) : MB l G 2 26 4229 mX10_init [.ref 69, .ref 1, .ref 15] S 70 ([(70, 2), (84, 4), (92, 2), (92, 1), (92, 0), (84, 3), (88, 2), (88, 1), (88, 0), (84, 2), (84, 1), (84, 0), (70, 1), (72, 4), (80, 2), (80, 1), (80, 0), (72, 3), (76, 2), (76, 1), (76, 0), (72, 2), (72, 1), (72, 0), (70, 0), (69, 9), (69, 8), (69, 11), (69, 10)] ++ S) 96 := by
  refine mb_of mc_X10_init rfl rfl (by decide) hlo ?_
  refine bp_aload (k := 0) (by decide +kernel) rfl ?_
  refine bp_obj (idx := 3) (by decide +kernel) (gw (i := 259) (by decide +kernel) rfl) ob_1 ob_2 ⟨by decide, by decide⟩ ?_
  refine bp_aload (k := 0) (by decide +kernel) rfl ?_
  refine bp_iconst (z := 3) (v := 3) (by decide +kernel) (by decide) ?_
  refine bp_anew (index := 9) (N := 3) hg (by decide +kernel) (gw (i := 260) (by decide +kernel) rfl) (by decide +kernel) (by decide) (by decide +kernel) (by decide +kernel) ?_
  refine bp_put hg (by decide +kernel) fl_X10_11 fb_X10_10 (by decide +kernel) (by decide +kernel) (by decide +kernel) (by decide +kernel) ?_
  refine bp_aload (k := 0) (by decide +kernel) rfl ?_
  refine bp_sipush (z := 2560) (v := 2560) (by decide +kernel) (by decide) ?_
  refine bp_long (N := 2560) hg (by decide +kernel) (gw (i := 317) (by decide +kernel) rfl) (by decide +kernel) (by decide) (by decide +kernel) (by decide +kernel) ?_
  refine bp_put hg (by decide +kernel) fl_X10_15 fb_X10_11 (by decide +kernel) (by decide +kernel) (by decide +kernel) (by decide +kernel) ?_
  refine bp_aload (k := 0) (by decide +kernel) rfl ?_
  refine bp_aload (k := 1) (by decide +kernel) rfl ?_
  refine bp_put hg (by decide +kernel) fl_X10_19 fb_X10_8 (by decide +kernel) (by decide +kernel) (by decide +kernel) (by decide +kernel) ?_
  refine bp_aload (k := 0) (by decide +kernel) rfl ?_
  refine bp_aload (k := 2) (by decide +kernel) rfl ?_
  refine bp_put hg (by decide +kernel) fl_X10_23 fb_X10_9 (by decide +kernel) (by decide +kernel) (by decide +kernel) (by decide +kernel) ?_
  refine bp_aload (k := 0) (by decide +kernel) rfl ?_
  refine bp_get (b := 70) (by decide +kernel) fl_X10_11 (by decide +kernel) (by decide +kernel) (by decide +kernel) (by simp [hm]) ?_
  refine bp_iconst (z := 0) (v := 0) (by decide +kernel) (by decide) ?_
  refine bp_aload (k := 2) (by decide +kernel) rfl ?_
  refine bp_get (b := 31) (by decide +kernel) fl_X10_27 (by decide +kernel) (by decide +kernel) (by decide +kernel) (by simp [hm]) ?_
  refine bp_aast (i := 0) hg (by decide +kernel) (by decide +kernel) (by decide) (by decide) (by decide +kernel) (by decide +kernel) (by decide +kernel) (by decide +kernel) ?_
  refine bp_aload (k := 0) (by decide +kernel) rfl ?_
  refine bp_get (b := 70) (by decide +kernel) fl_X10_11 (by decide +kernel) (by decide +kernel) (by decide +kernel) (by simp [hm]) ?_
  refine bp_iconst (z := 1) (v := 1) (by decide +kernel) (by decide) ?_
  refine bp_new (index := 9) (Cn := RX7) (T := TX7) (N := 8) (ci := 5) hg (by decide +kernel) (gw (i := 260) (by decide +kernel) rfl) (gw (i := 104) (by decide +kernel) rfl) (gw (i := 6) (by decide +kernel) rfl) rfl inW7 tyX7 tyX7_ok (by decide +kernel) (by decide +kernel) (by decide +kernel) ?_
  refine bp_dup (by decide +kernel) ?_
  refine bp_call (idx := 33) (host := RX11) (M' := mX7_init) (a := 72) (av := []) (rest := [.ref 72, .int 1, .ref 70]) (by decide +kernel) mc_X7_init (by unfold MeN; decide +kernel) (gw (i := 106) (by decide +kernel) rfl) rfl rfl (Or.inr (fun U q => (hg.2 U q).2.2.2.2.2.2)) rfl ⟨rfl, by decide⟩ (by decide +kernel) (fun h => mb_X7_72 hg h) (fun h => loS_app (by decide +kernel) (by decide) h) ?_
  refine bp_aast (i := 1) hg (by decide +kernel) (by decide +kernel) (by decide) (by decide) (by decide +kernel) (by decide +kernel) (by decide +kernel) (by decide +kernel) ?_
  refine bp_aload (k := 0) (by decide +kernel) rfl ?_
  refine bp_get (b := 70) (by decide +kernel) fl_X10_11 (by decide +kernel) (by decide +kernel) (by decide +kernel) (by simp [hm]) ?_
  refine bp_iconst (z := 2) (v := 2) (by decide +kernel) (by decide) ?_
  refine bp_new (index := 9) (Cn := RX7) (T := TX7) (N := 8) (ci := 5) hg (by decide +kernel) (gw (i := 260) (by decide +kernel) rfl) (gw (i := 104) (by decide +kernel) rfl) (gw (i := 6) (by decide +kernel) rfl) rfl inW7 tyX7 tyX7_ok (by decide +kernel) (by decide +kernel) (by decide +kernel) ?_
  refine bp_dup (by decide +kernel) ?_
  refine bp_call (idx := 33) (host := RX11) (M' := mX7_init) (a := 84) (av := []) (rest := [.ref 84, .int 2, .ref 70]) (by decide +kernel) mc_X7_init (by unfold MeN; decide +kernel) (gw (i := 106) (by decide +kernel) rfl) rfl rfl (Or.inr (fun U q => (hg.2 U q).2.2.2.2.2.2)) rfl ⟨rfl, by decide⟩ (by decide +kernel) (fun h => mb_X7_84 hg h) (fun h => loS_app (by decide +kernel) (by decide) h) ?_
  refine bp_aast (i := 2) hg (by decide +kernel) (by decide +kernel) (by decide) (by decide) (by decide +kernel) (by decide +kernel) (by decide +kernel) (by decide +kernel) ?_
  exact bp_ret rfl (by decide +kernel)
