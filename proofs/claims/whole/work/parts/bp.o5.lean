-- constructors (by gen_ctor.py)
def L11 : List (Nat × Nat) := [(0, 12), (96, 1), (96, 0), (0, 11), (70, 2), (84, 4), (92, 2), (92, 1), (92, 0), (84, 3), (88, 2), (88, 1), (88, 0), (84, 2), (84, 1), (84, 0), (70, 1), (72, 4), (80, 2), (80, 1), (80, 0), (72, 3), (76, 2), (76, 1), (76, 0), (72, 2), (72, 1), (72, 0), (70, 0), (69, 9), (69, 8), (69, 11), (69, 10), (0, 10), (64, 4), (64, 3), (64, 2), (64, 1), (0, 9), (63, 2), (63, 1), (63, 0), (0, 8), (15, 6), (15, 10), (15, 9), (59, 1), (59, 0), (15, 8), (56, 1), (56, 0), (15, 7), (15, 5), (43, 4), (51, 2), (51, 1), (51, 0), (43, 3), (47, 2), (47, 1), (47, 0), (43, 2), (43, 1), (43, 0), (15, 4), (31, 4), (39, 2), (39, 1), (39, 0), (31, 3), (35, 2), (35, 1), (35, 0), (31, 2), (31, 1), (31, 0), (15, 3), (19, 4), (27, 2), (27, 1), (27, 0), (19, 3), (23, 2), (23, 1), (23, 0), (19, 2), (19, 1), (19, 0), (15, 2), (15, 1), (15, 0), (0, 7), (12, 1), (12, 0), (0, 6), (8, 4), (8, 3), (8, 1), (8, 0), (0, 5), (6, 0), (0, 4), (0, 3), (0, 2), (0, 1), (0, 0)]
def L12 : List (Nat × Nat) := [(98, 44), (98, 40), (98, 39), (98, 37), (98, 35), (98, 32), (98, 31), (98, 30), (98, 29), (98, 28), (98, 23), (98, 22), (98, 21), (98, 20), (98, 12), (98, 11), (98, 10), (98, 9), (98, 8), (98, 7), (98, 6), (98, 5), (98, 1)]
theorem mb_X11_0 {l : Launch} {G : GT} (hg : GN G)  : MB l G 3 97 13737 mX11_init [.ref 0] [] 1 (L11 ++ []) 98 := by
  refine mb_of mc_X11_init rfl rfl (by decide) (fun q h => absurd h List.not_mem_nil) ?_
  refine bp_aload (k := 0) (by decide +kernel) rfl ?_
  refine bp_obj (idx := 1) (by decide +kernel) (gw (i := 29) (by decide +kernel) rfl) ob_1 ob_2 ⟨by decide, by decide⟩ ?_
  refine bp_aload (k := 0) (by decide +kernel) rfl ?_
  refine bp_bipush (z := 14) (v := 14) (by decide +kernel) (by decide) ?_
  refine bp_int (N := 14) hg (by decide +kernel) (gw (i := 47) (by decide +kernel) rfl) (by decide +kernel) (by decide) (by decide +kernel) (by decide +kernel) ?_
  refine bp_put hg (by decide +kernel) fl_X11_9 fb_X11_0 (by decide +kernel) (by decide +kernel) (by decide +kernel) (by decide +kernel) ?_
  refine bp_aload (k := 0) (by decide +kernel) rfl ?_
  refine bp_bipush (z := 115) (v := 115) (by decide +kernel) (by decide) ?_
  refine bp_int (N := 115) hg (by decide +kernel) (gw (i := 47) (by decide +kernel) rfl) (by decide +kernel) (by decide) (by decide +kernel) (by decide +kernel) ?_
  refine bp_put hg (by decide +kernel) fl_X11_17 fb_X11_1 (by decide +kernel) (by decide +kernel) (by decide +kernel) (by decide +kernel) ?_
  refine bp_aload (k := 0) (by decide +kernel) rfl ?_
  refine bp_bipush (z := 115) (v := 115) (by decide +kernel) (by decide) ?_
  refine bp_int (N := 115) hg (by decide +kernel) (gw (i := 47) (by decide +kernel) rfl) (by decide +kernel) (by decide) (by decide +kernel) (by decide +kernel) ?_
  refine bp_put hg (by decide +kernel) fl_X11_20 fb_X11_2 (by decide +kernel) (by decide +kernel) (by decide +kernel) (by decide +kernel) ?_
  refine bp_aload (k := 0) (by decide +kernel) rfl ?_
  refine bp_iconst (z := 4) (v := 4) (by decide +kernel) (by decide) ?_
  refine bp_int (N := 4) hg (by decide +kernel) (gw (i := 47) (by decide +kernel) rfl) (by decide +kernel) (by decide) (by decide +kernel) (by decide +kernel) ?_
  refine bp_put hg (by decide +kernel) fl_X11_23 fb_X11_3 (by decide +kernel) (by decide +kernel) (by decide +kernel) (by decide +kernel) ?_
  refine bp_aload (k := 0) (by decide +kernel) rfl ?_
  refine bp_iconst (z := 4) (v := 4) (by decide +kernel) (by decide) ?_
  refine bp_int (N := 4) hg (by decide +kernel) (gw (i := 47) (by decide +kernel) rfl) (by decide +kernel) (by decide) (by decide +kernel) (by decide +kernel) ?_
  refine bp_put hg (by decide +kernel) fl_X11_26 fb_X11_4 (by decide +kernel) (by decide +kernel) (by decide +kernel) (by decide +kernel) ?_
  refine bp_aload (k := 0) (by decide +kernel) rfl ?_
  refine bp_new (index := 29) (Cn := RX9) (T := TX9) (N := 2) (ci := 7) hg (by decide +kernel) (gw (i := 32) (by decide +kernel) rfl) (gw (i := 33) (by decide +kernel) rfl) (gw (i := 2) (by decide +kernel) rfl) rfl inW9 tyX9 tyX9_ok (by decide +kernel) (by decide +kernel) (by decide +kernel) ?_
  refine bp_dup (by decide +kernel) ?_
  refine bp_call (idx := 31) (host := RX11) (M' := mX9_init) (a := 6) (av := []) (rest := [.ref 6, .ref 0]) (by decide +kernel) mc_X9_init (by unfold MeN; decide +kernel) (gw (i := 35) (by decide +kernel) rfl) rfl rfl (Or.inr (fun U q => (hg.2 U q).2.2.1)) rfl ⟨rfl, by decide⟩ (by decide +kernel) (fun h => mb_X9_6 hg h) (fun h => loS_app (by decide +kernel) (by decide) h) ?_
  refine bp_put hg (by decide +kernel) fl_X11_32 fb_X11_5 (by decide +kernel) (by decide +kernel) (by decide +kernel) (by decide +kernel) ?_
  refine bp_aload (k := 0) (by decide +kernel) rfl ?_
  refine bp_new (index := 36) (Cn := RX4) (T := TX4) (N := 7) (ci := 3) hg (by decide +kernel) (gw (i := 49) (by decide +kernel) rfl) (gw (i := 50) (by decide +kernel) rfl) (gw (i := 3) (by decide +kernel) rfl) rfl inW4 tyX4 tyX4_ok (by decide +kernel) (by decide +kernel) (by decide +kernel) ?_
  refine bp_dup (by decide +kernel) ?_
  refine bp_aload (k := 0) (by decide +kernel) rfl ?_
  refine bp_get (b := 6) (by decide +kernel) fl_X11_32 (by decide +kernel) (by decide +kernel) (by decide +kernel) (by decide +kernel) ?_
  refine bp_call (idx := 38) (host := RX11) (M' := mX4_init) (a := 8) (av := [.ref 6]) (rest := [.ref 8, .ref 0]) (by decide +kernel) mc_X4_init (by unfold MeN; decide +kernel) (gw (i := 52) (by decide +kernel) rfl) rfl rfl (Or.inl (gw (i := 51) (by decide +kernel) rfl)) rfl ⟨rfl, by decide⟩ (by decide +kernel) (fun h => mb_X4_8 hg h) (fun h => loS_app (by decide +kernel) (by decide) h) ?_
  refine bp_put hg (by decide +kernel) fl_X11_41 fb_X11_6 (by decide +kernel) (by decide +kernel) (by decide +kernel) (by decide +kernel) ?_
  refine bp_aload (k := 0) (by decide +kernel) rfl ?_
  refine bp_new (index := 45) (Cn := RX6) (T := TX6) (N := 3) (ci := 4) hg (by decide +kernel) (gw (i := 80) (by decide +kernel) rfl) (gw (i := 81) (by decide +kernel) rfl) (gw (i := 4) (by decide +kernel) rfl) rfl inW6 tyX6 tyX6_ok (by decide +kernel) (by decide +kernel) (by decide +kernel) ?_
  refine bp_dup (by decide +kernel) ?_
  refine bp_call (idx := 47) (host := RX11) (M' := mX6_init) (a := 12) (av := []) (rest := [.ref 12, .ref 0]) (by decide +kernel) mc_X6_init (by unfold MeN; decide +kernel) (gw (i := 83) (by decide +kernel) rfl) rfl rfl (Or.inr (fun U q => (hg.2 U q).2.2.2.1)) rfl ⟨rfl, by decide⟩ (by decide +kernel) (fun h => mb_X6_12 hg h) (fun h => loS_app (by decide +kernel) (by decide) h) ?_
  refine bp_put hg (by decide +kernel) fl_X11_48 fb_X11_7 (by decide +kernel) (by decide +kernel) (by decide +kernel) (by decide +kernel) ?_
  refine bp_aload (k := 0) (by decide +kernel) rfl ?_
  refine bp_new (index := 52) (Cn := RX8) (T := TX8) (N := 12) (ci := 6) hg (by decide +kernel) (gw (i := 97) (by decide +kernel) rfl) (gw (i := 98) (by decide +kernel) rfl) (gw (i := 5) (by decide +kernel) rfl) rfl inW8 tyX8 tyX8_ok (by decide +kernel) (by decide +kernel) (by decide +kernel) ?_
  refine bp_dup (by decide +kernel) ?_
  refine bp_aload (k := 0) (by decide +kernel) rfl ?_
  refine bp_get (b := 1) (by decide +kernel) fl_X11_9 (by decide +kernel) (by decide +kernel) (by decide +kernel) (by decide +kernel) ?_
  refine bp_call (idx := 54) (host := RX11) (M' := mX8_init) (a := 15) (av := [.ref 1]) (rest := [.ref 15, .ref 0]) (by decide +kernel) mc_X8_init (by unfold MeN; decide +kernel) (gw (i := 100) (by decide +kernel) rfl) rfl rfl (Or.inl (gw (i := 99) (by decide +kernel) rfl)) rfl ⟨rfl, by decide⟩ (by decide +kernel) (fun h => mb_X8_15 hg h) (fun h => loS_app (by decide +kernel) (by decide) h) ?_
  refine bp_put hg (by decide +kernel) fl_X11_57 fb_X11_8 (by decide +kernel) (by decide +kernel) (by decide +kernel) (by decide +kernel) ?_
  refine bp_aload (k := 0) (by decide +kernel) rfl ?_
  refine bp_new (index := 61) (Cn := RX3) (T := TX3) (N := 4) (ci := 2) hg (by decide +kernel) (gw (i := 199) (by decide +kernel) rfl) (gw (i := 200) (by decide +kernel) rfl) (gw (i := 7) (by decide +kernel) rfl) rfl inW3 tyX3 tyX3_ok (by decide +kernel) (by decide +kernel) (by decide +kernel) ?_
  refine bp_dup (by decide +kernel) ?_
  refine bp_aload (k := 0) (by decide +kernel) rfl ?_
  refine bp_get (b := 1) (by decide +kernel) fl_X11_9 (by decide +kernel) (by decide +kernel) (by decide +kernel) (by decide +kernel) ?_
  refine bp_aload (k := 0) (by decide +kernel) rfl ?_
  refine bp_get (b := 2) (by decide +kernel) fl_X11_17 (by decide +kernel) (by decide +kernel) (by decide +kernel) (by decide +kernel) ?_
  refine bp_aload (k := 0) (by decide +kernel) rfl ?_
  refine bp_get (b := 15) (by decide +kernel) fl_X11_57 (by decide +kernel) (by decide +kernel) (by decide +kernel) (by decide +kernel) ?_
  refine bp_call (idx := 63) (host := RX11) (M' := mX3_init) (a := 63) (av := [.ref 1, .ref 2, .ref 15]) (rest := [.ref 63, .ref 0]) (by decide +kernel) mc_X3_init (by unfold MeN; decide +kernel) (gw (i := 202) (by decide +kernel) rfl) rfl rfl (Or.inl (gw (i := 201) (by decide +kernel) rfl)) rfl ⟨rfl, by decide⟩ (by decide +kernel) (fun h => mb_X3_63 hg h) (fun h => loS_app (by decide +kernel) (by decide) h) ?_
  refine bp_put hg (by decide +kernel) fl_X11_66 fb_X11_9 (by decide +kernel) (by decide +kernel) (by decide +kernel) (by decide +kernel) ?_
  refine bp_aload (k := 0) (by decide +kernel) rfl ?_
  refine bp_new (index := 70) (Cn := RX2) (T := TX2) (N := 9) (ci := 1) hg (by decide +kernel) (gw (i := 219) (by decide +kernel) rfl) (gw (i := 220) (by decide +kernel) rfl) (gw (i := 8) (by decide +kernel) rfl) rfl inW2 tyX2 tyX2_ok (by decide +kernel) (by decide +kernel) (by decide +kernel) ?_
  refine bp_dup (by decide +kernel) ?_
  refine bp_call (idx := 72) (host := RX11) (M' := mX2_init) (a := 64) (av := []) (rest := [.ref 64, .ref 0]) (by decide +kernel) mc_X2_init (by unfold MeN; decide +kernel) (gw (i := 222) (by decide +kernel) rfl) rfl rfl (Or.inr (fun U q => (hg.2 U q).2.2.2.2.2.1)) rfl ⟨rfl, by decide⟩ (by decide +kernel) (fun h => mb_X2_64 hg h) (fun h => loS_app (by decide +kernel) (by decide) h) ?_
  refine bp_put hg (by decide +kernel) fl_X11_73 fb_X11_10 (by decide +kernel) (by decide +kernel) (by decide +kernel) (by decide +kernel) ?_
  refine bp_aload (k := 0) (by decide +kernel) rfl ?_
  refine bp_new (index := 77) (Cn := RX10) (T := TX10) (N := 15) (ci := 8) hg (by decide +kernel) (gw (i := 254) (by decide +kernel) rfl) (gw (i := 255) (by decide +kernel) rfl) (gw (i := 9) (by decide +kernel) rfl) rfl inW10 tyX10 tyX10_ok (by decide +kernel) (by decide +kernel) (by decide +kernel) ?_
  refine bp_dup (by decide +kernel) ?_
  refine bp_aload (k := 0) (by decide +kernel) rfl ?_
  refine bp_get (b := 1) (by decide +kernel) fl_X11_9 (by decide +kernel) (by decide +kernel) (by decide +kernel) (by decide +kernel) ?_
  refine bp_aload (k := 0) (by decide +kernel) rfl ?_
  refine bp_get (b := 15) (by decide +kernel) fl_X11_57 (by decide +kernel) (by decide +kernel) (by decide +kernel) (by decide +kernel) ?_
  refine bp_call (idx := 79) (host := RX11) (M' := mX10_init) (a := 69) (av := [.ref 1, .ref 15]) (rest := [.ref 69, .ref 0]) (by decide +kernel) mc_X10_init (by unfold MeN; decide +kernel) (gw (i := 257) (by decide +kernel) rfl) rfl rfl (Or.inl (gw (i := 256) (by decide +kernel) rfl)) rfl ⟨rfl, by decide⟩ (by decide +kernel) (fun h => mb_X10_69 hg h (by decide +kernel)) (fun h => loS_app (by decide +kernel) (by decide) h) ?_
  refine bp_put hg (by decide +kernel) fl_X11_82 fb_X11_11 (by decide +kernel) (by decide +kernel) (by decide +kernel) (by decide +kernel) ?_
  refine bp_aload (k := 0) (by decide +kernel) rfl ?_
  refine bp_new (index := 86) (Cn := RX1) (T := TX1) (N := 2) (ci := 0) hg (by decide +kernel) (gw (i := 318) (by decide +kernel) rfl) (gw (i := 319) (by decide +kernel) rfl) (gw (i := 10) (by decide +kernel) rfl) rfl inW1 tyX1 tyX1_ok (by decide +kernel) (by decide +kernel) (by decide +kernel) ?_
  refine bp_dup (by decide +kernel) ?_
  refine bp_aload (k := 0) (by decide +kernel) rfl ?_
  refine bp_get (b := 1) (by decide +kernel) fl_X11_9 (by decide +kernel) (by decide +kernel) (by decide +kernel) (by decide +kernel) ?_
  refine bp_call (idx := 88) (host := RX11) (M' := mX1_init) (a := 96) (av := [.ref 1]) (rest := [.ref 96, .ref 0]) (by decide +kernel) mc_X1_init (by unfold MeN; decide +kernel) (gw (i := 321) (by decide +kernel) rfl) rfl rfl (Or.inl (gw (i := 320) (by decide +kernel) rfl)) rfl ⟨rfl, by decide⟩ (by decide +kernel) (fun h => mb_X1_96 hg h) (fun h => loS_app (by decide +kernel) (by decide) h) ?_
  refine bp_put hg (by decide +kernel) fl_X11_89 fb_X11_12 (by decide +kernel) (by decide +kernel) (by decide +kernel) (by decide +kernel) ?_
  exact bp_ret rfl (by decide +kernel)
theorem mb_X12_98 {l : Launch} {G : GT} (hg : GN G) {S : List (Nat × Nat)} (hlo : loS S 99) : MB l G 1 23 214900 mX12_init [.ref 98] S 99 (L12 ++ S) 122 := by
  refine mb_of mc_X12_init rfl rfl (by decide) hlo ?_
  refine bp_aload (k := 0) (by decide +kernel) rfl ?_
  refine bp_obj (idx := 3) (by decide +kernel) (gw (i := 1071) (by decide +kernel) rfl) ob_1 ob_2 ⟨by decide, by decide⟩ ?_
  refine bp_aload (k := 0) (by decide +kernel) rfl ?_
  refine bp_sipush (z := 320) (v := 320) (by decide +kernel) (by decide) ?_
  refine bp_byte (N := 320) hg (by decide +kernel) (gw (i := 48) (by decide +kernel) rfl) (by decide +kernel) (by decide) (by decide +kernel) (by decide +kernel) ?_
  refine bp_put hg (by decide +kernel) fl_X12_9 fb_X12_1 (by decide +kernel) (by decide +kernel) (by decide +kernel) (by decide +kernel) ?_
  refine bp_aload (k := 0) (by decide +kernel) rfl ?_
  refine bp_bipush (z := 14) (v := 14) (by decide +kernel) (by decide) ?_
  refine bp_int (N := 14) hg (by decide +kernel) (gw (i := 47) (by decide +kernel) rfl) (by decide +kernel) (by decide) (by decide +kernel) (by decide +kernel) ?_
  refine bp_put hg (by decide +kernel) fl_X12_13 fb_X12_5 (by decide +kernel) (by decide +kernel) (by decide +kernel) (by decide +kernel) ?_
  refine bp_aload (k := 0) (by decide +kernel) rfl ?_
  refine bp_bipush (z := 14) (v := 14) (by decide +kernel) (by decide) ?_
  refine bp_int (N := 14) hg (by decide +kernel) (gw (i := 47) (by decide +kernel) rfl) (by decide +kernel) (by decide) (by decide +kernel) (by decide +kernel) ?_
  refine bp_put hg (by decide +kernel) fl_X12_17 fb_X12_6 (by decide +kernel) (by decide +kernel) (by decide +kernel) (by decide +kernel) ?_
  refine bp_aload (k := 0) (by decide +kernel) rfl ?_
  refine bp_bipush (z := 24) (v := 24) (by decide +kernel) (by decide) ?_
  refine bp_int (N := 24) hg (by decide +kernel) (gw (i := 47) (by decide +kernel) rfl) (by decide +kernel) (by decide) (by decide +kernel) (by decide +kernel) ?_
  refine bp_put hg (by decide +kernel) fl_X12_20 fb_X12_7 (by decide +kernel) (by decide +kernel) (by decide +kernel) (by decide +kernel) ?_
  refine bp_aload (k := 0) (by decide +kernel) rfl ?_
  refine bp_bipush (z := 48) (v := 48) (by decide +kernel) (by decide) ?_
  refine bp_int (N := 48) hg (by decide +kernel) (gw (i := 47) (by decide +kernel) rfl) (by decide +kernel) (by decide) (by decide +kernel) (by decide +kernel) ?_
  refine bp_put hg (by decide +kernel) fl_X12_23 fb_X12_8 (by decide +kernel) (by decide +kernel) (by decide +kernel) (by decide +kernel) ?_
  refine bp_aload (k := 0) (by decide +kernel) rfl ?_
  refine bp_bipush (z := 72) (v := 72) (by decide +kernel) (by decide) ?_
  refine bp_int (N := 72) hg (by decide +kernel) (gw (i := 47) (by decide +kernel) rfl) (by decide +kernel) (by decide) (by decide +kernel) (by decide +kernel) ?_
  refine bp_put hg (by decide +kernel) fl_X12_26 fb_X12_9 (by decide +kernel) (by decide +kernel) (by decide +kernel) (by decide +kernel) ?_
  refine bp_aload (k := 0) (by decide +kernel) rfl ?_
  refine bp_iconst (z := 4) (v := 4) (by decide +kernel) (by decide) ?_
  refine bp_int (N := 4) hg (by decide +kernel) (gw (i := 47) (by decide +kernel) rfl) (by decide +kernel) (by decide) (by decide +kernel) (by decide +kernel) ?_
  refine bp_put hg (by decide +kernel) fl_X12_29 fb_X12_10 (by decide +kernel) (by decide +kernel) (by decide +kernel) (by decide +kernel) ?_
  refine bp_aload (k := 0) (by decide +kernel) rfl ?_
  refine bp_sipush (z := 320) (v := 320) (by decide +kernel) (by decide) ?_
  refine bp_int (N := 320) hg (by decide +kernel) (gw (i := 47) (by decide +kernel) rfl) (by decide +kernel) (by decide) (by decide +kernel) (by decide +kernel) ?_
  refine bp_put hg (by decide +kernel) fl_X12_32 fb_X12_11 (by decide +kernel) (by decide +kernel) (by decide +kernel) (by decide +kernel) ?_
  refine bp_aload (k := 0) (by decide +kernel) rfl ?_
  refine bp_iconst (z := 5) (v := 5) (by decide +kernel) (by decide) ?_
  refine bp_int (N := 5) hg (by decide +kernel) (gw (i := 47) (by decide +kernel) rfl) (by decide +kernel) (by decide) (by decide +kernel) (by decide +kernel) ?_
  refine bp_put hg (by decide +kernel) fl_X12_35 fb_X12_12 (by decide +kernel) (by decide +kernel) (by decide +kernel) (by decide +kernel) ?_
  refine bp_aload (k := 0) (by decide +kernel) rfl ?_
  refine bp_sipush (z := 494) (v := 494) (by decide +kernel) (by decide) ?_
  refine bp_int (N := 494) hg (by decide +kernel) (gw (i := 47) (by decide +kernel) rfl) (by decide +kernel) (by decide) (by decide +kernel) (by decide +kernel) ?_
  refine bp_put hg (by decide +kernel) fl_X12_38 fb_X12_20 (by decide +kernel) (by decide +kernel) (by decide +kernel) (by decide +kernel) ?_
  refine bp_aload (k := 0) (by decide +kernel) rfl ?_
  refine bp_sipush (z := 494) (v := 494) (by decide +kernel) (by decide) ?_
  refine bp_int (N := 494) hg (by decide +kernel) (gw (i := 47) (by decide +kernel) rfl) (by decide +kernel) (by decide) (by decide +kernel) (by decide +kernel) ?_
  refine bp_put hg (by decide +kernel) fl_X12_41 fb_X12_21 (by decide +kernel) (by decide +kernel) (by decide +kernel) (by decide +kernel) ?_
  refine bp_aload (k := 0) (by decide +kernel) rfl ?_
  refine bp_sipush (z := 494) (v := 494) (by decide +kernel) (by decide) ?_
  refine bp_int (N := 494) hg (by decide +kernel) (gw (i := 47) (by decide +kernel) rfl) (by decide +kernel) (by decide) (by decide +kernel) (by decide +kernel) ?_
  refine bp_put hg (by decide +kernel) fl_X12_44 fb_X12_22 (by decide +kernel) (by decide +kernel) (by decide +kernel) (by decide +kernel) ?_
  refine bp_aload (k := 0) (by decide +kernel) rfl ?_
  refine bp_sipush (z := 19760) (v := 19760) (by decide +kernel) (by decide) ?_
  refine bp_int (N := 19760) hg (by decide +kernel) (gw (i := 47) (by decide +kernel) rfl) (by decide +kernel) (by decide) (by decide +kernel) (by decide +kernel) ?_
  refine bp_put hg (by decide +kernel) fl_X12_47 fb_X12_23 (by decide +kernel) (by decide +kernel) (by decide +kernel) (by decide +kernel) ?_
  refine bp_aload (k := 0) (by decide +kernel) rfl ?_
  refine bp_bipush (z := 13) (v := 13) (by decide +kernel) (by decide) ?_
  refine bp_int (N := 13) hg (by decide +kernel) (gw (i := 47) (by decide +kernel) rfl) (by decide +kernel) (by decide) (by decide +kernel) (by decide +kernel) ?_
  refine bp_put hg (by decide +kernel) fl_X12_50 fb_X12_28 (by decide +kernel) (by decide +kernel) (by decide +kernel) (by decide +kernel) ?_
  refine bp_aload (k := 0) (by decide +kernel) rfl ?_
  refine bp_bipush (z := 13) (v := 13) (by decide +kernel) (by decide) ?_
  refine bp_int (N := 13) hg (by decide +kernel) (gw (i := 47) (by decide +kernel) rfl) (by decide +kernel) (by decide) (by decide +kernel) (by decide +kernel) ?_
  refine bp_put hg (by decide +kernel) fl_X12_53 fb_X12_29 (by decide +kernel) (by decide +kernel) (by decide +kernel) (by decide +kernel) ?_
  refine bp_aload (k := 0) (by decide +kernel) rfl ?_
  refine bp_bipush (z := 13) (v := 13) (by decide +kernel) (by decide) ?_
  refine bp_int (N := 13) hg (by decide +kernel) (gw (i := 47) (by decide +kernel) rfl) (by decide +kernel) (by decide) (by decide +kernel) (by decide +kernel) ?_
  refine bp_put hg (by decide +kernel) fl_X12_56 fb_X12_30 (by decide +kernel) (by decide +kernel) (by decide +kernel) (by decide +kernel) ?_
  refine bp_aload (k := 0) (by decide +kernel) rfl ?_
  refine bp_ldc (i := 59) (v := 62640) (by decide +kernel) (gw (i := 1072) (by decide +kernel) rfl) ?_
  refine bp_long (N := 62640) hg (by decide +kernel) (gw (i := 317) (by decide +kernel) rfl) (by decide +kernel) (by decide) (by decide +kernel) (by decide +kernel) ?_
  refine bp_put hg (by decide +kernel) fl_X12_60 fb_X12_31 (by decide +kernel) (by decide +kernel) (by decide +kernel) (by decide +kernel) ?_
  refine bp_aload (k := 0) (by decide +kernel) rfl ?_
  refine bp_ldc (i := 59) (v := 62640) (by decide +kernel) (gw (i := 1072) (by decide +kernel) rfl) ?_
  refine bp_long (N := 62640) hg (by decide +kernel) (gw (i := 317) (by decide +kernel) rfl) (by decide +kernel) (by decide) (by decide +kernel) (by decide +kernel) ?_
  refine bp_put hg (by decide +kernel) fl_X12_64 fb_X12_32 (by decide +kernel) (by decide +kernel) (by decide +kernel) (by decide +kernel) ?_
  refine bp_aload (k := 0) (by decide +kernel) rfl ?_
  refine bp_ldc (i := 59) (v := 62640) (by decide +kernel) (gw (i := 1072) (by decide +kernel) rfl) ?_
  refine bp_long (N := 62640) hg (by decide +kernel) (gw (i := 317) (by decide +kernel) rfl) (by decide +kernel) (by decide) (by decide +kernel) (by decide +kernel) ?_
  refine bp_put hg (by decide +kernel) fl_X12_67 fb_X12_35 (by decide +kernel) (by decide +kernel) (by decide +kernel) (by decide +kernel) ?_
  refine bp_aload (k := 0) (by decide +kernel) rfl ?_
  refine bp_sipush (z := 494) (v := 494) (by decide +kernel) (by decide) ?_
  refine bp_int (N := 494) hg (by decide +kernel) (gw (i := 47) (by decide +kernel) rfl) (by decide +kernel) (by decide) (by decide +kernel) (by decide +kernel) ?_
  refine bp_put hg (by decide +kernel) fl_X12_70 fb_X12_37 (by decide +kernel) (by decide +kernel) (by decide +kernel) (by decide +kernel) ?_
  refine bp_aload (k := 0) (by decide +kernel) rfl ?_
  refine bp_sipush (z := 4096) (v := 4096) (by decide +kernel) (by decide) ?_
  refine bp_int (N := 4096) hg (by decide +kernel) (gw (i := 47) (by decide +kernel) rfl) (by decide +kernel) (by decide) (by decide +kernel) (by decide +kernel) ?_
  refine bp_put hg (by decide +kernel) fl_X12_73 fb_X12_39 (by decide +kernel) (by decide +kernel) (by decide +kernel) (by decide +kernel) ?_
  refine bp_aload (k := 0) (by decide +kernel) rfl ?_
  refine bp_sipush (z := 144) (v := 144) (by decide +kernel) (by decide) ?_
  refine bp_int (N := 144) hg (by decide +kernel) (gw (i := 47) (by decide +kernel) rfl) (by decide +kernel) (by decide) (by decide +kernel) (by decide +kernel) ?_
  refine bp_put hg (by decide +kernel) fl_X12_76 fb_X12_40 (by decide +kernel) (by decide +kernel) (by decide +kernel) (by decide +kernel) ?_
  refine bp_aload (k := 0) (by decide +kernel) rfl ?_
  refine bp_sipush (z := 144) (v := 144) (by decide +kernel) (by decide) ?_
  refine bp_int (N := 144) hg (by decide +kernel) (gw (i := 47) (by decide +kernel) rfl) (by decide +kernel) (by decide) (by decide +kernel) (by decide +kernel) ?_
  refine bp_put hg (by decide +kernel) fl_X12_79 fb_X12_44 (by decide +kernel) (by decide +kernel) (by decide +kernel) (by decide +kernel) ?_
  exact bp_ret rfl (by decide +kernel)
