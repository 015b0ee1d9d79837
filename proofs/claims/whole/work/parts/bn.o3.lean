-- constructors (by gen_ctor.py)
theorem ob_1 : Cond.instanceMethod Lib.objectInit ∈ gW := gw (i := 30) (by decide +kernel) rfl
theorem ob_2 : Cond.code Lib.objectInit ⟨#[0xb1]⟩ 1 none ∈ gW := gw (i := 31) (by decide +kernel) (by decide +kernel)
theorem mc_X9_init : MeC mX9_init := ⟨gw (i := 36) (by decide +kernel) (by decide +kernel), gw (i := 2) (by decide +kernel) rfl, ⟨by decide +kernel, by decide +kernel⟩, by decide, by decide +kernel⟩
theorem mc_X4_init : MeC mX4_init := ⟨gw (i := 53) (by decide +kernel) (by decide +kernel), gw (i := 3) (by decide +kernel) rfl, ⟨by decide +kernel, by decide +kernel⟩, by decide, by decide +kernel⟩
theorem mc_X6_init : MeC mX6_init := ⟨gw (i := 84) (by decide +kernel) (by decide +kernel), gw (i := 4) (by decide +kernel) rfl, ⟨by decide +kernel, by decide +kernel⟩, by decide, by decide +kernel⟩
theorem mc_X3_init : MeC mX3_init := ⟨gw (i := 203) (by decide +kernel) (by decide +kernel), gw (i := 7) (by decide +kernel) rfl, ⟨by decide +kernel, by decide +kernel⟩, by decide, by decide +kernel⟩
theorem mc_X2_init : MeC mX2_init := ⟨gw (i := 223) (by decide +kernel) (by decide +kernel), gw (i := 8) (by decide +kernel) rfl, ⟨by decide +kernel, by decide +kernel⟩, by decide, by decide +kernel⟩
theorem mc_X1_init : MeC mX1_init := ⟨gw (i := 322) (by decide +kernel) (by decide +kernel), gw (i := 10) (by decide +kernel) rfl, ⟨by decide +kernel, by decide +kernel⟩, by decide, by decide +kernel⟩
theorem mc_X7_init : MeC mX7_init := ⟨gw (i := 107) (by decide +kernel) (by decide +kernel), gw (i := 6) (by decide +kernel) rfl, ⟨by decide +kernel, by decide +kernel⟩, by decide, by decide +kernel⟩
theorem mc_X8_init : MeC mX8_init := ⟨gw (i := 101) (by decide +kernel) (by decide +kernel), gw (i := 5) (by decide +kernel) rfl, ⟨by decide +kernel, by decide +kernel⟩, by decide, by decide +kernel⟩
theorem mc_X10_init : MeC mX10_init := ⟨gw (i := 258) (by decide +kernel) (by decide +kernel), gw (i := 9) (by decide +kernel) rfl, ⟨by decide +kernel, by decide +kernel⟩, by decide, by decide +kernel⟩
theorem mc_X11_init : MeC mX11_init := ⟨gw (i := 28) (by decide +kernel) (by decide +kernel), gw (i := 1) (by decide +kernel) rfl, ⟨by decide +kernel, by decide +kernel⟩, by decide, by decide +kernel⟩
theorem mc_X12_init : MeC mX12_init := ⟨gw (i := 1070) (by decide +kernel) (by decide +kernel), gw (i := 11) (by decide +kernel) rfl, ⟨by decide +kernel, by decide +kernel⟩, by decide, by decide +kernel⟩
theorem fb_X9_0 : FB RX9 7 0 := ⟨RX9, TX9, 2, (.array .byte), rfl, Or.inr ⟨rfl, rfl⟩, by decide +kernel, fun _ => rfl, fun _ => rfl⟩
theorem fb_X4_0 : FB RX4 3 0 := ⟨RX4, TX4, 7, (.array .int), rfl, Or.inr ⟨rfl, rfl⟩, by decide +kernel, fun _ => rfl, fun _ => rfl⟩
theorem fb_X4_1 : FB RX4 3 1 := ⟨RX4, TX4, 7, (.array .int), rfl, Or.inr ⟨rfl, rfl⟩, by decide +kernel, fun _ => rfl, fun _ => rfl⟩
theorem fb_X4_3 : FB RX4 3 3 := ⟨RX4, TX4, 7, (.array .int), rfl, Or.inr ⟨rfl, rfl⟩, by decide +kernel, fun _ => rfl, fun _ => rfl⟩
theorem fb_X4_4 : FB RX4 3 4 := ⟨RX4, TX4, 7, (.object "RefundDesk$Tape"), rfl, Or.inr ⟨rfl, rfl⟩, by decide +kernel, fun _ => rfl, fun _ => rfl⟩
theorem fb_X6_0 : FB RX6 4 0 := ⟨RX6, TX6, 3, (.array .int), rfl, Or.inr ⟨rfl, rfl⟩, by decide +kernel, fun _ => rfl, fun _ => rfl⟩
theorem fb_X6_1 : FB RX6 4 1 := ⟨RX6, TX6, 3, (.array .int), rfl, Or.inr ⟨rfl, rfl⟩, by decide +kernel, fun _ => rfl, fun _ => rfl⟩
theorem fb_X3_0 : FB RX3 2 0 := ⟨RX3, TX3, 4, (.array .int), rfl, Or.inr ⟨rfl, rfl⟩, by decide +kernel, fun _ => rfl, fun _ => rfl⟩
theorem fb_X3_1 : FB RX3 2 1 := ⟨RX3, TX3, 4, (.array .int), rfl, Or.inr ⟨rfl, rfl⟩, by decide +kernel, fun _ => rfl, fun _ => rfl⟩
theorem fb_X3_2 : FB RX3 2 2 := ⟨RX3, TX3, 4, (.object "RefundDesk$Tables"), rfl, Or.inr ⟨rfl, rfl⟩, by decide +kernel, fun _ => rfl, fun _ => rfl⟩
theorem fb_X2_1 : FB RX2 1 1 := ⟨RX2, TX2, 9, (.array .int), rfl, Or.inr ⟨rfl, rfl⟩, by decide +kernel, fun _ => rfl, fun _ => rfl⟩
theorem fb_X2_2 : FB RX2 1 2 := ⟨RX2, TX2, 9, (.array .int), rfl, Or.inr ⟨rfl, rfl⟩, by decide +kernel, fun _ => rfl, fun _ => rfl⟩
theorem fb_X2_3 : FB RX2 1 3 := ⟨RX2, TX2, 9, (.array .int), rfl, Or.inr ⟨rfl, rfl⟩, by decide +kernel, fun _ => rfl, fun _ => rfl⟩
theorem fb_X2_4 : FB RX2 1 4 := ⟨RX2, TX2, 9, (.array .int), rfl, Or.inr ⟨rfl, rfl⟩, by decide +kernel, fun _ => rfl, fun _ => rfl⟩
theorem fb_X1_0 : FB RX1 0 0 := ⟨RX1, TX1, 2, (.array .int), rfl, Or.inr ⟨rfl, rfl⟩, by decide +kernel, fun _ => rfl, fun _ => rfl⟩
theorem fb_X1_1 : FB RX1 0 1 := ⟨RX1, TX1, 2, (.array .int), rfl, Or.inr ⟨rfl, rfl⟩, by decide +kernel, fun _ => rfl, fun _ => rfl⟩
theorem fb_X7_0 : FB RX7 5 0 := ⟨RX7, TX7, 8, (.array .int), rfl, Or.inr ⟨rfl, rfl⟩, by decide +kernel, fun _ => rfl, fun _ => rfl⟩
theorem fb_X7_1 : FB RX7 5 1 := ⟨RX7, TX7, 8, (.array .int), rfl, Or.inr ⟨rfl, rfl⟩, by decide +kernel, fun _ => rfl, fun _ => rfl⟩
theorem fb_X7_2 : FB RX7 5 2 := ⟨RX7, TX7, 8, (.array .int), rfl, Or.inr ⟨rfl, rfl⟩, by decide +kernel, fun _ => rfl, fun _ => rfl⟩
theorem fb_X7_3 : FB RX7 5 3 := ⟨RX7, TX7, 8, (.array (.array .int)), rfl, Or.inr ⟨rfl, rfl⟩, by decide +kernel, fun _ => rfl, fun _ => rfl⟩
theorem fb_X7_4 : FB RX7 5 4 := ⟨RX7, TX7, 8, (.array (.array .int)), rfl, Or.inr ⟨rfl, rfl⟩, by decide +kernel, fun _ => rfl, fun _ => rfl⟩
theorem fb_X8_0 : FB RX8 6 0 := ⟨RX8, TX8, 12, (.array .int), rfl, Or.inr ⟨rfl, rfl⟩, by decide +kernel, fun _ => rfl, fun _ => rfl⟩
theorem fb_X8_1 : FB RX8 6 1 := ⟨RX8, TX8, 12, (.array .int), rfl, Or.inr ⟨rfl, rfl⟩, by decide +kernel, fun _ => rfl, fun _ => rfl⟩
theorem fb_X8_2 : FB RX8 6 2 := ⟨RX8, TX8, 12, (.array .int), rfl, Or.inr ⟨rfl, rfl⟩, by decide +kernel, fun _ => rfl, fun _ => rfl⟩
theorem fb_X8_3 : FB RX8 6 3 := ⟨RX8, TX8, 12, (.object "RefundDesk$Table"), rfl, Or.inr ⟨rfl, rfl⟩, by decide +kernel, fun _ => rfl, fun _ => rfl⟩
theorem fb_X8_4 : FB RX8 6 4 := ⟨RX8, TX8, 12, (.object "RefundDesk$Table"), rfl, Or.inr ⟨rfl, rfl⟩, by decide +kernel, fun _ => rfl, fun _ => rfl⟩
theorem fb_X8_5 : FB RX8 6 5 := ⟨RX8, TX8, 12, (.object "RefundDesk$Table"), rfl, Or.inr ⟨rfl, rfl⟩, by decide +kernel, fun _ => rfl, fun _ => rfl⟩
theorem fb_X8_7 : FB RX8 6 7 := ⟨RX8, TX8, 12, (.array .int), rfl, Or.inr ⟨rfl, rfl⟩, by decide +kernel, fun _ => rfl, fun _ => rfl⟩
theorem fb_X8_8 : FB RX8 6 8 := ⟨RX8, TX8, 12, (.array (.array .int)), rfl, Or.inr ⟨rfl, rfl⟩, by decide +kernel, fun _ => rfl, fun _ => rfl⟩
theorem fb_X8_9 : FB RX8 6 9 := ⟨RX8, TX8, 12, (.array (.array .int)), rfl, Or.inr ⟨rfl, rfl⟩, by decide +kernel, fun _ => rfl, fun _ => rfl⟩
theorem fb_X8_10 : FB RX8 6 10 := ⟨RX8, TX8, 12, (.array .int), rfl, Or.inr ⟨rfl, rfl⟩, by decide +kernel, fun _ => rfl, fun _ => rfl⟩
theorem fb_X8_6 : FB RX8 6 6 := ⟨RX8, TX8, 12, (.array .int), rfl, Or.inr ⟨rfl, rfl⟩, by decide +kernel, fun _ => rfl, fun _ => rfl⟩
theorem fb_X10_10 : FB RX10 8 10 := ⟨RX10, TX10, 15, (.array (.object "RefundDesk$Table")), rfl, Or.inr ⟨rfl, rfl⟩, by decide +kernel, fun _ => rfl, fun _ => rfl⟩
theorem fb_X10_11 : FB RX10 8 11 := ⟨RX10, TX10, 15, (.array .long), rfl, Or.inr ⟨rfl, rfl⟩, by decide +kernel, fun _ => rfl, fun _ => rfl⟩
theorem fb_X10_8 : FB RX10 8 8 := ⟨RX10, TX10, 15, (.array .int), rfl, Or.inr ⟨rfl, rfl⟩, by decide +kernel, fun _ => rfl, fun _ => rfl⟩
theorem fb_X10_9 : FB RX10 8 9 := ⟨RX10, TX10, 15, (.object "RefundDesk$Tables"), rfl, Or.inr ⟨rfl, rfl⟩, by decide +kernel, fun _ => rfl, fun _ => rfl⟩
theorem fb_X11_0 : FB RX11 9 0 := ⟨RX11, TX11, 14, (.array .int), rfl, Or.inr ⟨rfl, rfl⟩, by decide +kernel, fun _ => rfl, fun _ => rfl⟩
theorem fb_X11_1 : FB RX11 9 1 := ⟨RX11, TX11, 14, (.array .int), rfl, Or.inr ⟨rfl, rfl⟩, by decide +kernel, fun _ => rfl, fun _ => rfl⟩
theorem fb_X11_2 : FB RX11 9 2 := ⟨RX11, TX11, 14, (.array .int), rfl, Or.inr ⟨rfl, rfl⟩, by decide +kernel, fun _ => rfl, fun _ => rfl⟩
theorem fb_X11_3 : FB RX11 9 3 := ⟨RX11, TX11, 14, (.array .int), rfl, Or.inr ⟨rfl, rfl⟩, by decide +kernel, fun _ => rfl, fun _ => rfl⟩
theorem fb_X11_4 : FB RX11 9 4 := ⟨RX11, TX11, 14, (.array .int), rfl, Or.inr ⟨rfl, rfl⟩, by decide +kernel, fun _ => rfl, fun _ => rfl⟩
theorem fb_X11_5 : FB RX11 9 5 := ⟨RX11, TX11, 14, (.object "RefundDesk$Tape"), rfl, Or.inr ⟨rfl, rfl⟩, by decide +kernel, fun _ => rfl, fun _ => rfl⟩
theorem fb_X11_6 : FB RX11 9 6 := ⟨RX11, TX11, 14, (.object "RefundDesk$Reader"), rfl, Or.inr ⟨rfl, rfl⟩, by decide +kernel, fun _ => rfl, fun _ => rfl⟩
theorem fb_X11_7 : FB RX11 9 7 := ⟨RX11, TX11, 14, (.object "RefundDesk$Scripts"), rfl, Or.inr ⟨rfl, rfl⟩, by decide +kernel, fun _ => rfl, fun _ => rfl⟩
theorem fb_X11_8 : FB RX11 9 8 := ⟨RX11, TX11, 14, (.object "RefundDesk$Tables"), rfl, Or.inr ⟨rfl, rfl⟩, by decide +kernel, fun _ => rfl, fun _ => rfl⟩
theorem fb_X11_9 : FB RX11 9 9 := ⟨RX11, TX11, 14, (.object "RefundDesk$Office"), rfl, Or.inr ⟨rfl, rfl⟩, by decide +kernel, fun _ => rfl, fun _ => rfl⟩
theorem fb_X11_10 : FB RX11 9 10 := ⟨RX11, TX11, 14, (.object "RefundDesk$History"), rfl, Or.inr ⟨rfl, rfl⟩, by decide +kernel, fun _ => rfl, fun _ => rfl⟩
theorem fb_X11_11 : FB RX11 9 11 := ⟨RX11, TX11, 14, (.object "RefundDesk$Walk"), rfl, Or.inr ⟨rfl, rfl⟩, by decide +kernel, fun _ => rfl, fun _ => rfl⟩
theorem fb_X11_12 : FB RX11 9 12 := ⟨RX11, TX11, 14, (.object "RefundDesk$Flow"), rfl, Or.inr ⟨rfl, rfl⟩, by decide +kernel, fun _ => rfl, fun _ => rfl⟩
theorem fb_X12_1 : FB RX12 10 1 := ⟨RX12, TX12, 45, (.array .byte), rfl, Or.inr ⟨rfl, rfl⟩, by decide +kernel, fun _ => rfl, fun _ => rfl⟩
theorem fb_X12_5 : FB RX12 10 5 := ⟨RX12, TX12, 45, (.array .int), rfl, Or.inr ⟨rfl, rfl⟩, by decide +kernel, fun _ => rfl, fun _ => rfl⟩
theorem fb_X12_6 : FB RX12 10 6 := ⟨RX12, TX12, 45, (.array .int), rfl, Or.inr ⟨rfl, rfl⟩, by decide +kernel, fun _ => rfl, fun _ => rfl⟩
theorem fb_X12_7 : FB RX12 10 7 := ⟨RX12, TX12, 45, (.array .int), rfl, Or.inr ⟨rfl, rfl⟩, by decide +kernel, fun _ => rfl, fun _ => rfl⟩
theorem fb_X12_8 : FB RX12 10 8 := ⟨RX12, TX12, 45, (.array .int), rfl, Or.inr ⟨rfl, rfl⟩, by decide +kernel, fun _ => rfl, fun _ => rfl⟩
theorem fb_X12_9 : FB RX12 10 9 := ⟨RX12, TX12, 45, (.array .int), rfl, Or.inr ⟨rfl, rfl⟩, by decide +kernel, fun _ => rfl, fun _ => rfl⟩
theorem fb_X12_10 : FB RX12 10 10 := ⟨RX12, TX12, 45, (.array .int), rfl, Or.inr ⟨rfl, rfl⟩, by decide +kernel, fun _ => rfl, fun _ => rfl⟩
theorem fb_X12_11 : FB RX12 10 11 := ⟨RX12, TX12, 45, (.array .int), rfl, Or.inr ⟨rfl, rfl⟩, by decide +kernel, fun _ => rfl, fun _ => rfl⟩
theorem fb_X12_12 : FB RX12 10 12 := ⟨RX12, TX12, 45, (.array .int), rfl, Or.inr ⟨rfl, rfl⟩, by decide +kernel, fun _ => rfl, fun _ => rfl⟩
theorem fb_X12_20 : FB RX12 10 20 := ⟨RX12, TX12, 45, (.array .int), rfl, Or.inr ⟨rfl, rfl⟩, by decide +kernel, fun _ => rfl, fun _ => rfl⟩
theorem fb_X12_21 : FB RX12 10 21 := ⟨RX12, TX12, 45, (.array .int), rfl, Or.inr ⟨rfl, rfl⟩, by decide +kernel, fun _ => rfl, fun _ => rfl⟩
theorem fb_X12_22 : FB RX12 10 22 := ⟨RX12, TX12, 45, (.array .int), rfl, Or.inr ⟨rfl, rfl⟩, by decide +kernel, fun _ => rfl, fun _ => rfl⟩
theorem fb_X12_23 : FB RX12 10 23 := ⟨RX12, TX12, 45, (.array .int), rfl, Or.inr ⟨rfl, rfl⟩, by decide +kernel, fun _ => rfl, fun _ => rfl⟩
theorem fb_X12_28 : FB RX12 10 28 := ⟨RX12, TX12, 45, (.array .int), rfl, Or.inr ⟨rfl, rfl⟩, by decide +kernel, fun _ => rfl, fun _ => rfl⟩
theorem fb_X12_29 : FB RX12 10 29 := ⟨RX12, TX12, 45, (.array .int), rfl, Or.inr ⟨rfl, rfl⟩, by decide +kernel, fun _ => rfl, fun _ => rfl⟩
theorem fb_X12_30 : FB RX12 10 30 := ⟨RX12, TX12, 45, (.array .int), rfl, Or.inr ⟨rfl, rfl⟩, by decide +kernel, fun _ => rfl, fun _ => rfl⟩
theorem fb_X12_31 : FB RX12 10 31 := ⟨RX12, TX12, 45, (.array .long), rfl, Or.inr ⟨rfl, rfl⟩, by decide +kernel, fun _ => rfl, fun _ => rfl⟩
theorem fb_X12_32 : FB RX12 10 32 := ⟨RX12, TX12, 45, (.array .long), rfl, Or.inr ⟨rfl, rfl⟩, by decide +kernel, fun _ => rfl, fun _ => rfl⟩
theorem fb_X12_35 : FB RX12 10 35 := ⟨RX12, TX12, 45, (.array .long), rfl, Or.inr ⟨rfl, rfl⟩, by decide +kernel, fun _ => rfl, fun _ => rfl⟩
theorem fb_X12_37 : FB RX12 10 37 := ⟨RX12, TX12, 45, (.array .int), rfl, Or.inr ⟨rfl, rfl⟩, by decide +kernel, fun _ => rfl, fun _ => rfl⟩
theorem fb_X12_39 : FB RX12 10 39 := ⟨RX12, TX12, 45, (.array .int), rfl, Or.inr ⟨rfl, rfl⟩, by decide +kernel, fun _ => rfl, fun _ => rfl⟩
theorem fb_X12_40 : FB RX12 10 40 := ⟨RX12, TX12, 45, (.array .int), rfl, Or.inr ⟨rfl, rfl⟩, by decide +kernel, fun _ => rfl, fun _ => rfl⟩
theorem fb_X12_44 : FB RX12 10 44 := ⟨RX12, TX12, 45, (.array .int), rfl, Or.inr ⟨rfl, rfl⟩, by decide +kernel, fun _ => rfl, fun _ => rfl⟩
theorem mb_X9_6 {l : Launch} {G : GT} (hg : GN G) {S : List (Nat × Nat)} (hlo : loS S 7) : MB l G 1 1 320 mX9_init [.ref 6] S 7 ([(6, 0)] ++ S) 8 := by
  refine mb_of mc_X9_init rfl rfl (by decide) hlo ?_
  refine bp_aload (k := 0) (by decide +kernel) rfl ?_
  refine bp_obj (idx := 1) (by decide +kernel) (gw (i := 37) (by decide +kernel) rfl) ob_1 ob_2 ⟨by decide, by decide⟩ ?_
  refine bp_aload (k := 0) (by decide +kernel) rfl ?_
  refine bp_sipush (z := 320) (v := 320) (by decide +kernel) (by decide) ?_
  refine bp_byte (N := 320) hg (by decide +kernel) (gw (i := 48) (by decide +kernel) rfl) (by decide +kernel) (by decide) (by decide +kernel) (by decide +kernel) ?_
  refine bp_put hg (by decide +kernel) fl_X9_9 fb_X9_0 (by decide +kernel) (by decide +kernel) (by decide +kernel) (by decide +kernel) ?_
  exact bp_ret rfl (by decide +kernel)
theorem mb_X4_8 {l : Launch} {G : GT} (hg : GN G) {S : List (Nat × Nat)} (hlo : loS S 9) : MB l G 1 3 130 mX4_init [.ref 8, .ref 6] S 9 ([(8, 4), (8, 3), (8, 1), (8, 0)] ++ S) 12 := by
  refine mb_of mc_X4_init rfl rfl (by decide) hlo ?_
  refine bp_aload (k := 0) (by decide +kernel) rfl ?_
  refine bp_obj (idx := 3) (by decide +kernel) (gw (i := 54) (by decide +kernel) rfl) ob_1 ob_2 ⟨by decide, by decide⟩ ?_
  refine bp_aload (k := 0) (by decide +kernel) rfl ?_
  refine bp_bipush (z := 14) (v := 14) (by decide +kernel) (by decide) ?_
  refine bp_int (N := 14) hg (by decide +kernel) (gw (i := 47) (by decide +kernel) rfl) (by decide +kernel) (by decide) (by decide +kernel) (by decide +kernel) ?_
  refine bp_put hg (by decide +kernel) fl_X4_11 fb_X4_0 (by decide +kernel) (by decide +kernel) (by decide +kernel) (by decide +kernel) ?_
  refine bp_aload (k := 0) (by decide +kernel) rfl ?_
  refine bp_bipush (z := 112) (v := 112) (by decide +kernel) (by decide) ?_
  refine bp_int (N := 112) hg (by decide +kernel) (gw (i := 47) (by decide +kernel) rfl) (by decide +kernel) (by decide) (by decide +kernel) (by decide +kernel) ?_
  refine bp_put hg (by decide +kernel) fl_X4_17 fb_X4_1 (by decide +kernel) (by decide +kernel) (by decide +kernel) (by decide +kernel) ?_
  refine bp_aload (k := 0) (by decide +kernel) rfl ?_
  refine bp_iconst (z := 4) (v := 4) (by decide +kernel) (by decide) ?_
  refine bp_int (N := 4) hg (by decide +kernel) (gw (i := 47) (by decide +kernel) rfl) (by decide +kernel) (by decide) (by decide +kernel) (by decide +kernel) ?_
  refine bp_put hg (by decide +kernel) fl_X4_20 fb_X4_3 (by decide +kernel) (by decide +kernel) (by decide +kernel) (by decide +kernel) ?_
  refine bp_aload (k := 0) (by decide +kernel) rfl ?_
  refine bp_aload (k := 1) (by decide +kernel) rfl ?_
  refine bp_put hg (by decide +kernel) fl_X4_23 fb_X4_4 (by decide +kernel) (by decide +kernel) (by decide +kernel) (by decide +kernel) ?_
  exact bp_ret rfl (by decide +kernel)
theorem mb_X6_12 {l : Launch} {G : GT} (hg : GN G) {S : List (Nat × Nat)} (hlo : loS S 13) : MB l G 1 2 260 mX6_init [.ref 12] S 13 ([(12, 1), (12, 0)] ++ S) 15 := by
  refine mb_of mc_X6_init rfl rfl (by decide) hlo ?_
  refine bp_aload (k := 0) (by decide +kernel) rfl ?_
  refine bp_obj (idx := 3) (by decide +kernel) (gw (i := 85) (by decide +kernel) rfl) ob_1 ob_2 ⟨by decide, by decide⟩ ?_
  refine bp_aload (k := 0) (by decide +kernel) rfl ?_
  refine bp_sipush (z := 256) (v := 256) (by decide +kernel) (by decide) ?_
  refine bp_int (N := 256) hg (by decide +kernel) (gw (i := 47) (by decide +kernel) rfl) (by decide +kernel) (by decide) (by decide +kernel) (by decide +kernel) ?_
  refine bp_put hg (by decide +kernel) fl_X6_11 fb_X6_0 (by decide +kernel) (by decide +kernel) (by decide +kernel) (by decide +kernel) ?_
  refine bp_aload (k := 0) (by decide +kernel) rfl ?_
  refine bp_iconst (z := 4) (v := 4) (by decide +kernel) (by decide) ?_
  refine bp_int (N := 4) hg (by decide +kernel) (gw (i := 47) (by decide +kernel) rfl) (by decide +kernel) (by decide) (by decide +kernel) (by decide +kernel) ?_
  refine bp_put hg (by decide +kernel) fl_X6_15 fb_X6_1 (by decide +kernel) (by decide +kernel) (by decide +kernel) (by decide +kernel) ?_
  exact bp_ret rfl (by decide +kernel)
theorem mb_X3_63 {l : Launch} {G : GT} (hg : GN G) {S : List (Nat × Nat)} (hlo : loS S 64) : MB l G 1 0 0 mX3_init [.ref 63, .ref 1, .ref 2, .ref 15] S 64 ([(63, 2), (63, 1), (63, 0)] ++ S) 64 := by
  refine mb_of mc_X3_init rfl rfl (by decide) hlo ?_
  refine bp_aload (k := 0) (by decide +kernel) rfl ?_
  refine bp_obj (idx := 3) (by decide +kernel) (gw (i := 204) (by decide +kernel) rfl) ob_1 ob_2 ⟨by decide, by decide⟩ ?_
  refine bp_aload (k := 0) (by decide +kernel) rfl ?_
  refine bp_aload (k := 1) (by decide +kernel) rfl ?_
  refine bp_put hg (by decide +kernel) fl_X3_9 fb_X3_0 (by decide +kernel) (by decide +kernel) (by decide +kernel) (by decide +kernel) ?_
  refine bp_aload (k := 0) (by decide +kernel) rfl ?_
  refine bp_aload (k := 2) (by decide +kernel) rfl ?_
  refine bp_put hg (by decide +kernel) fl_X3_15 fb_X3_1 (by decide +kernel) (by decide +kernel) (by decide +kernel) (by decide +kernel) ?_
  refine bp_aload (k := 0) (by decide +kernel) rfl ?_
  refine bp_aload (k := 3) (by decide +kernel) rfl ?_
  refine bp_put hg (by decide +kernel) fl_X3_18 fb_X3_2 (by decide +kernel) (by decide +kernel) (by decide +kernel) (by decide +kernel) ?_
  exact bp_ret rfl (by decide +kernel)
theorem mb_X2_64 {l : Launch} {G : GT} (hg : GN G) {S : List (Nat × Nat)} (hlo : loS S 65) : MB l G 1 4 5430 mX2_init [.ref 64] S 65 ([(64, 4), (64, 3), (64, 2), (64, 1)] ++ S) 69 := by
  refine mb_of mc_X2_init rfl rfl (by decide) hlo ?_
  refine bp_aload (k := 0) (by decide +kernel) rfl ?_
  refine bp_obj (idx := 5) (by decide +kernel) (gw (i := 224) (by decide +kernel) rfl) ob_1 ob_2 ⟨by decide, by decide⟩ ?_
  refine bp_aload (k := 0) (by decide +kernel) rfl ?_
  refine bp_sipush (z := 4715) (v := 4715) (by decide +kernel) (by decide) ?_
  refine bp_int (N := 4715) hg (by decide +kernel) (gw (i := 47) (by decide +kernel) rfl) (by decide +kernel) (by decide) (by decide +kernel) (by decide +kernel) ?_
  refine bp_put hg (by decide +kernel) fl_X2_13 fb_X2_1 (by decide +kernel) (by decide +kernel) (by decide +kernel) (by decide +kernel) ?_
  refine bp_aload (k := 0) (by decide +kernel) rfl ?_
  refine bp_sipush (z := 300) (v := 300) (by decide +kernel) (by decide) ?_
  refine bp_int (N := 300) hg (by decide +kernel) (gw (i := 47) (by decide +kernel) rfl) (by decide +kernel) (by decide) (by decide +kernel) (by decide +kernel) ?_
  refine bp_put hg (by decide +kernel) fl_X2_17 fb_X2_2 (by decide +kernel) (by decide +kernel) (by decide +kernel) (by decide +kernel) ?_
  refine bp_aload (k := 0) (by decide +kernel) rfl ?_
  refine bp_bipush (z := 115) (v := 115) (by decide +kernel) (by decide) ?_
  refine bp_int (N := 115) hg (by decide +kernel) (gw (i := 47) (by decide +kernel) rfl) (by decide +kernel) (by decide) (by decide +kernel) (by decide +kernel) ?_
  refine bp_put hg (by decide +kernel) fl_X2_20 fb_X2_3 (by decide +kernel) (by decide +kernel) (by decide +kernel) (by decide +kernel) ?_
  refine bp_aload (k := 0) (by decide +kernel) rfl ?_
  refine bp_sipush (z := 300) (v := 300) (by decide +kernel) (by decide) ?_
  refine bp_int (N := 300) hg (by decide +kernel) (gw (i := 47) (by decide +kernel) rfl) (by decide +kernel) (by decide) (by decide +kernel) (by decide +kernel) ?_
  refine bp_put hg (by decide +kernel) fl_X2_23 fb_X2_4 (by decide +kernel) (by decide +kernel) (by decide +kernel) (by decide +kernel) ?_
  exact bp_ret rfl (by decide +kernel)
theorem mb_X1_96 {l : Launch} {G : GT} (hg : GN G) {S : List (Nat × Nat)} (hlo : loS S 97) : MB l G 1 1 91 mX1_init [.ref 96, .ref 1] S 97 ([(96, 1), (96, 0)] ++ S) 98 := by
  refine mb_of mc_X1_init rfl rfl (by decide) hlo ?_
  refine bp_aload (k := 0) (by decide +kernel) rfl ?_
  refine bp_obj (idx := 1) (by decide +kernel) (gw (i := 323) (by decide +kernel) rfl) ob_1 ob_2 ⟨by decide, by decide⟩ ?_
  refine bp_aload (k := 0) (by decide +kernel) rfl ?_
  refine bp_bipush (z := 91) (v := 91) (by decide +kernel) (by decide) ?_
  refine bp_int (N := 91) hg (by decide +kernel) (gw (i := 47) (by decide +kernel) rfl) (by decide +kernel) (by decide) (by decide +kernel) (by decide +kernel) ?_
  refine bp_put hg (by decide +kernel) fl_X1_9 fb_X1_0 (by decide +kernel) (by decide +kernel) (by decide +kernel) (by decide +kernel) ?_
  refine bp_aload (k := 0) (by decide +kernel) rfl ?_
  refine bp_aload (k := 1) (by decide +kernel) rfl ?_
  refine bp_put hg (by decide +kernel) fl_X1_15 fb_X1_1 (by decide +kernel) (by decide +kernel) (by decide +kernel) (by decide +kernel) ?_
  exact bp_ret rfl (by decide +kernel)
