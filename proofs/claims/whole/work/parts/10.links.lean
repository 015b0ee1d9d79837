-- the tables' words that links rest on, by their places
theorem gw {i : Nat} {w : Cond} (h : tables_1[i]? = some w) (hg : goodWord w = true) : w ∈ gW := List.mem_filter.mpr ⟨List.mem_append_right _ (List.mem_of_getElem? h), hg⟩
theorem gs {i : Nat} {w : Cond} (h : (k2_sels lw_privs)[i]? = some w) (hg : goodWord w = true) : w ∈ gW := List.mem_filter.mpr ⟨List.mem_append_left _ (List.mem_of_getElem? h), hg⟩
theorem inW1 : ∀ w ∈ u_ws RX1 TX1 2, w ∈ gW := by
  intro w hw
  obtain ⟨k, hk, rfl⟩ := List.mem_map.mp hw
  have hk := List.mem_range.mp hk
  have h : ∀ k, k < 2 → (tables_1[([327, 329] : List Nat).getD k 0]? = some (u_lay RX1 TX1 k) ∧ goodWord (u_lay RX1 TX1 k) = true) := by decide +kernel
  exact gw (h k hk).1 (h k hk).2
theorem inW2 : ∀ w ∈ u_ws RX2 TX2 9, w ∈ gW := by
  intro w hw
  obtain ⟨k, hk, rfl⟩ := List.mem_map.mp hw
  have hk := List.mem_range.mp hk
  have h : ∀ k, k < 9 → (tables_1[([235, 237, 239, 241, 243, 245, 247, 249, 251] : List Nat).getD k 0]? = some (u_lay RX2 TX2 k) ∧ goodWord (u_lay RX2 TX2 k) = true) := by decide +kernel
  exact gw (h k hk).1 (h k hk).2
theorem inW3 : ∀ w ∈ u_ws RX3 TX3 4, w ∈ gW := by
  intro w hw
  obtain ⟨k, hk, rfl⟩ := List.mem_map.mp hw
  have hk := List.mem_range.mp hk
  have h : ∀ k, k < 4 → (tables_1[([210, 212, 214, 216] : List Nat).getD k 0]? = some (u_lay RX3 TX3 k) ∧ goodWord (u_lay RX3 TX3 k) = true) := by decide +kernel
  exact gw (h k hk).1 (h k hk).2
theorem inW4 : ∀ w ∈ u_ws RX4 TX4 7, w ∈ gW := by
  intro w hw
  obtain ⟨k, hk, rfl⟩ := List.mem_map.mp hw
  have hk := List.mem_range.mp hk
  have h : ∀ k, k < 7 → (tables_1[([65, 67, 69, 71, 73, 75, 77] : List Nat).getD k 0]? = some (u_lay RX4 TX4 k) ∧ goodWord (u_lay RX4 TX4 k) = true) := by decide +kernel
  exact gw (h k hk).1 (h k hk).2
theorem inW6 : ∀ w ∈ u_ws RX6 TX6 3, w ∈ gW := by
  intro w hw
  obtain ⟨k, hk, rfl⟩ := List.mem_map.mp hw
  have hk := List.mem_range.mp hk
  have h : ∀ k, k < 3 → (tables_1[([90, 92, 94] : List Nat).getD k 0]? = some (u_lay RX6 TX6 k) ∧ goodWord (u_lay RX6 TX6 k) = true) := by decide +kernel
  exact gw (h k hk).1 (h k hk).2
theorem inW7 : ∀ w ∈ u_ws RX7 TX7 8, w ∈ gW := by
  intro w hw
  obtain ⟨k, hk, rfl⟩ := List.mem_map.mp hw
  have hk := List.mem_range.mp hk
  have h : ∀ k, k < 8 → (tables_1[([136, 138, 140, 142, 144, 146, 148, 150] : List Nat).getD k 0]? = some (u_lay RX7 TX7 k) ∧ goodWord (u_lay RX7 TX7 k) = true) := by decide +kernel
  exact gw (h k hk).1 (h k hk).2
theorem inW8 : ∀ w ∈ u_ws RX8 TX8 12, w ∈ gW := by
  intro w hw
  obtain ⟨k, hk, rfl⟩ := List.mem_map.mp hw
  have hk := List.mem_range.mp hk
  have h : ∀ k, k < 12 → (tables_1[([174, 176, 178, 180, 182, 184, 186, 188, 190, 192, 194, 196] : List Nat).getD k 0]? = some (u_lay RX8 TX8 k) ∧ goodWord (u_lay RX8 TX8 k) = true) := by decide +kernel
  exact gw (h k hk).1 (h k hk).2
theorem inW9 : ∀ w ∈ u_ws RX9 TX9 2, w ∈ gW := by
  intro w hw
  obtain ⟨k, hk, rfl⟩ := List.mem_map.mp hw
  have hk := List.mem_range.mp hk
  have h : ∀ k, k < 2 → (tables_1[([42, 44] : List Nat).getD k 0]? = some (u_lay RX9 TX9 k) ∧ goodWord (u_lay RX9 TX9 k) = true) := by decide +kernel
  exact gw (h k hk).1 (h k hk).2
theorem inW10 : ∀ w ∈ u_ws RX10 TX10 15, w ∈ gW := by
  intro w hw
  obtain ⟨k, hk, rfl⟩ := List.mem_map.mp hw
  have hk := List.mem_range.mp hk
  have h : ∀ k, k < 15 → (tables_1[([286, 288, 290, 292, 294, 296, 298, 300, 302, 304, 306, 308, 310, 312, 314] : List Nat).getD k 0]? = some (u_lay RX10 TX10 k) ∧ goodWord (u_lay RX10 TX10 k) = true) := by decide +kernel
  exact gw (h k hk).1 (h k hk).2
theorem inW11 : ∀ w ∈ u_ws RX11 TX11 14, w ∈ gW := by
  intro w hw
  obtain ⟨k, hk, rfl⟩ := List.mem_map.mp hw
  have hk := List.mem_range.mp hk
  have h : ∀ k, k < 14 → (tables_1[([346, 348, 350, 352, 354, 356, 358, 360, 362, 364, 366, 368, 370, 372] : List Nat).getD k 0]? = some (u_lay RX11 TX11 k) ∧ goodWord (u_lay RX11 TX11 k) = true) := by decide +kernel
  exact gw (h k hk).1 (h k hk).2
theorem inW12 : ∀ w ∈ u_ws RX12 TX12 45, w ∈ gW := by
  intro w hw
  obtain ⟨k, hk, rfl⟩ := List.mem_map.mp hw
  have hk := List.mem_range.mp hk
  have h : ∀ k, k < 45 → (tables_1[([1118, 1120, 1122, 1124, 1126, 1128, 1130, 1132, 1134, 1136, 1138, 1140, 1142, 1144, 1146, 1148, 1150, 1152, 1154, 1156, 1158, 1160, 1162, 1164, 1166, 1168, 1170, 1172, 1174, 1176, 1178, 1180, 1182, 1184, 1186, 1188, 1190, 1192, 1194, 1196, 1198, 1200, 1202, 1204, 1206] : List Nat).getD k 0]? = some (u_lay RX12 TX12 k) ∧ goodWord (u_lay RX12 TX12 k) = true) := by decide +kernel
  exact gw (h k hk).1 (h k hk).2
theorem fl_X11_9 : Fl RX11 9 9 0 := ⟨RX11, TX11, 14, tyX11, rfl, inW11, by decide, gw (i := 332) (by decide +kernel) rfl, tyX11_ok, nmX11⟩
theorem fl_X11_17 : Fl RX11 17 9 1 := ⟨RX11, TX11, 14, tyX11, rfl, inW11, by decide, gw (i := 333) (by decide +kernel) rfl, tyX11_ok, nmX11⟩
theorem fl_X11_20 : Fl RX11 20 9 2 := ⟨RX11, TX11, 14, tyX11, rfl, inW11, by decide, gw (i := 334) (by decide +kernel) rfl, tyX11_ok, nmX11⟩
theorem fl_X11_23 : Fl RX11 23 9 3 := ⟨RX11, TX11, 14, tyX11, rfl, inW11, by decide, gw (i := 335) (by decide +kernel) rfl, tyX11_ok, nmX11⟩
theorem fl_X11_26 : Fl RX11 26 9 4 := ⟨RX11, TX11, 14, tyX11, rfl, inW11, by decide, gw (i := 336) (by decide +kernel) rfl, tyX11_ok, nmX11⟩
theorem fl_X11_32 : Fl RX11 32 9 5 := ⟨RX11, TX11, 14, tyX11, rfl, inW11, by decide, gw (i := 337) (by decide +kernel) rfl, tyX11_ok, nmX11⟩
theorem fl_X11_41 : Fl RX11 41 9 6 := ⟨RX11, TX11, 14, tyX11, rfl, inW11, by decide, gw (i := 338) (by decide +kernel) rfl, tyX11_ok, nmX11⟩
theorem fl_X11_48 : Fl RX11 48 9 7 := ⟨RX11, TX11, 14, tyX11, rfl, inW11, by decide, gw (i := 339) (by decide +kernel) rfl, tyX11_ok, nmX11⟩
theorem fl_X11_57 : Fl RX11 57 9 8 := ⟨RX11, TX11, 14, tyX11, rfl, inW11, by decide, gw (i := 340) (by decide +kernel) rfl, tyX11_ok, nmX11⟩
theorem fl_X11_66 : Fl RX11 66 9 9 := ⟨RX11, TX11, 14, tyX11, rfl, inW11, by decide, gw (i := 341) (by decide +kernel) rfl, tyX11_ok, nmX11⟩
theorem fl_X11_73 : Fl RX11 73 9 10 := ⟨RX11, TX11, 14, tyX11, rfl, inW11, by decide, gw (i := 342) (by decide +kernel) rfl, tyX11_ok, nmX11⟩
theorem fl_X11_82 : Fl RX11 82 9 11 := ⟨RX11, TX11, 14, tyX11, rfl, inW11, by decide, gw (i := 343) (by decide +kernel) rfl, tyX11_ok, nmX11⟩
theorem fl_X11_89 : Fl RX11 89 9 12 := ⟨RX11, TX11, 14, tyX11, rfl, inW11, by decide, gw (i := 344) (by decide +kernel) rfl, tyX11_ok, nmX11⟩
theorem fl_X11_97 : Fl RX11 97 7 1 := ⟨RX9, TX9, 2, tyX9, rfl, inW9, by decide, gw (i := 39) (by decide +kernel) rfl, tyX9_ok, nmX9⟩
theorem fl_X11_108 : Fl RX11 108 4 2 := ⟨RX6, TX6, 3, tyX6, rfl, inW6, by decide, gw (i := 89) (by decide +kernel) rfl, tyX6_ok, nmX6⟩
theorem fl_X11_115 : Fl RX11 115 3 1 := ⟨RX4, TX4, 7, tyX4, rfl, inW4, by decide, gw (i := 58) (by decide +kernel) rfl, tyX4_ok, nmX4⟩
theorem fl_X11_118 : Fl RX11 118 3 2 := ⟨RX4, TX4, 7, tyX4, rfl, inW4, by decide, gw (i := 60) (by decide +kernel) rfl, tyX4_ok, nmX4⟩
theorem fl_X11_130 : Fl RX11 130 3 0 := ⟨RX4, TX4, 7, tyX4, rfl, inW4, by decide, gw (i := 56) (by decide +kernel) rfl, tyX4_ok, nmX4⟩
theorem fl_X11_189 : Fl RX11 189 6 1 := ⟨RX8, TX8, 12, tyX8, rfl, inW8, by decide, gw (i := 158) (by decide +kernel) rfl, tyX8_ok, nmX8⟩
theorem fl_X11_194 : Fl RX11 194 6 0 := ⟨RX8, TX8, 12, tyX8, rfl, inW8, by decide, gw (i := 156) (by decide +kernel) rfl, tyX8_ok, nmX8⟩
theorem fl_X11_197 : Fl RX11 197 6 2 := ⟨RX8, TX8, 12, tyX8, rfl, inW8, by decide, gw (i := 162) (by decide +kernel) rfl, tyX8_ok, nmX8⟩
theorem fl_X11_208 : Fl RX11 208 5 0 := ⟨RX7, TX7, 8, tyX7, rfl, inW7, by decide, gw (i := 112) (by decide +kernel) rfl, tyX7_ok, nmX7⟩
theorem fl_X11_213 : Fl RX11 213 5 6 := ⟨RX7, TX7, 8, tyX7, rfl, inW7, by decide, gw (i := 133) (by decide +kernel) rfl, tyX7_ok, nmX7⟩
theorem fl_X11_223 : Fl RX11 223 5 2 := ⟨RX7, TX7, 8, tyX7, rfl, inW7, by decide, gw (i := 121) (by decide +kernel) rfl, tyX7_ok, nmX7⟩
theorem fl_X11_237 : Fl RX11 237 2 3 := ⟨RX3, TX3, 4, tyX3, rfl, inW3, by decide, gw (i := 209) (by decide +kernel) rfl, tyX3_ok, nmX3⟩
theorem fl_X11_244 : Fl RX11 244 9 13 := ⟨RX11, TX11, 14, tyX11, rfl, inW11, by decide, gw (i := 345) (by decide +kernel) rfl, tyX11_ok, nmX11⟩
theorem fl_X11_262 : Fl RX11 262 1 0 := ⟨RX2, TX2, 9, tyX2, rfl, inW2, by decide, gw (i := 226) (by decide +kernel) rfl, tyX2_ok, nmX2⟩
theorem fl_X11_279 : Fl RX11 279 8 0 := ⟨RX10, TX10, 15, tyX10, rfl, inW10, by decide, gw (i := 264) (by decide +kernel) rfl, tyX10_ok, nmX10⟩
theorem fl_X11_282 : Fl RX11 282 8 1 := ⟨RX10, TX10, 15, tyX10, rfl, inW10, by decide, gw (i := 266) (by decide +kernel) rfl, tyX10_ok, nmX10⟩
theorem fl_X11_285 : Fl RX11 285 8 2 := ⟨RX10, TX10, 15, tyX10, rfl, inW10, by decide, gw (i := 268) (by decide +kernel) rfl, tyX10_ok, nmX10⟩
theorem fl_X11_292 : Fl RX11 292 0 0 := ⟨RX1, TX1, 2, tyX1, rfl, inW1, by decide, gw (i := 325) (by decide +kernel) rfl, tyX1_ok, nmX1⟩
theorem fl_X11_308 : Fl RX11 308 6 3 := ⟨RX8, TX8, 12, tyX8, rfl, inW8, by decide, gw (i := 164) (by decide +kernel) rfl, tyX8_ok, nmX8⟩
theorem fl_X11_312 : Fl RX11 312 5 5 := ⟨RX7, TX7, 8, tyX7, rfl, inW7, by decide, gw (i := 131) (by decide +kernel) rfl, tyX7_ok, nmX7⟩
theorem fl_X11_328 : Fl RX11 328 5 1 := ⟨RX7, TX7, 8, tyX7, rfl, inW7, by decide, gw (i := 116) (by decide +kernel) rfl, tyX7_ok, nmX7⟩
theorem fl_X11_349 : Fl RX11 349 5 3 := ⟨RX7, TX7, 8, tyX7, rfl, inW7, by decide, gw (i := 125) (by decide +kernel) rfl, tyX7_ok, nmX7⟩
theorem fl_X11_353 : Fl RX11 353 5 4 := ⟨RX7, TX7, 8, tyX7, rfl, inW7, by decide, gw (i := 128) (by decide +kernel) rfl, tyX7_ok, nmX7⟩
theorem fl_X11_372 : Fl RX11 372 8 3 := ⟨RX10, TX10, 15, tyX10, rfl, inW10, by decide, gw (i := 270) (by decide +kernel) rfl, tyX10_ok, nmX10⟩
theorem fl_X11_375 : Fl RX11 375 8 4 := ⟨RX10, TX10, 15, tyX10, rfl, inW10, by decide, gw (i := 272) (by decide +kernel) rfl, tyX10_ok, nmX10⟩
theorem fl_X11_378 : Fl RX11 378 8 5 := ⟨RX10, TX10, 15, tyX10, rfl, inW10, by decide, gw (i := 274) (by decide +kernel) rfl, tyX10_ok, nmX10⟩
theorem fl_X11_381 : Fl RX11 381 8 6 := ⟨RX10, TX10, 15, tyX10, rfl, inW10, by decide, gw (i := 276) (by decide +kernel) rfl, tyX10_ok, nmX10⟩
theorem fl_X11_384 : Fl RX11 384 8 7 := ⟨RX10, TX10, 15, tyX10, rfl, inW10, by decide, gw (i := 278) (by decide +kernel) rfl, tyX10_ok, nmX10⟩
theorem fl_X1_9 : Fl RX1 9 0 0 := ⟨RX1, TX1, 2, tyX1, rfl, inW1, by decide, gw (i := 324) (by decide +kernel) rfl, tyX1_ok, nmX1⟩
theorem fl_X1_15 : Fl RX1 15 0 1 := ⟨RX1, TX1, 2, tyX1, rfl, inW1, by decide, gw (i := 326) (by decide +kernel) rfl, tyX1_ok, nmX1⟩
theorem fl_X1_33 : Fl RX1 33 5 2 := ⟨RX7, TX7, 8, tyX7, rfl, inW7, by decide, gw (i := 118) (by decide +kernel) rfl, tyX7_ok, nmX7⟩
theorem fl_X2_13 : Fl RX2 13 1 1 := ⟨RX2, TX2, 9, tyX2, rfl, inW2, by decide, gw (i := 227) (by decide +kernel) rfl, tyX2_ok, nmX2⟩
theorem fl_X2_17 : Fl RX2 17 1 2 := ⟨RX2, TX2, 9, tyX2, rfl, inW2, by decide, gw (i := 228) (by decide +kernel) rfl, tyX2_ok, nmX2⟩
theorem fl_X2_20 : Fl RX2 20 1 3 := ⟨RX2, TX2, 9, tyX2, rfl, inW2, by decide, gw (i := 229) (by decide +kernel) rfl, tyX2_ok, nmX2⟩
theorem fl_X2_23 : Fl RX2 23 1 4 := ⟨RX2, TX2, 9, tyX2, rfl, inW2, by decide, gw (i := 230) (by decide +kernel) rfl, tyX2_ok, nmX2⟩
theorem fl_X2_26 : Fl RX2 26 1 0 := ⟨RX2, TX2, 9, tyX2, rfl, inW2, by decide, gw (i := 225) (by decide +kernel) rfl, tyX2_ok, nmX2⟩
theorem fl_X2_30 : Fl RX2 30 1 5 := ⟨RX2, TX2, 9, tyX2, rfl, inW2, by decide, gw (i := 231) (by decide +kernel) rfl, tyX2_ok, nmX2⟩
theorem fl_X2_33 : Fl RX2 33 1 6 := ⟨RX2, TX2, 9, tyX2, rfl, inW2, by decide, gw (i := 232) (by decide +kernel) rfl, tyX2_ok, nmX2⟩
theorem fl_X2_36 : Fl RX2 36 1 8 := ⟨RX2, TX2, 9, tyX2, rfl, inW2, by decide, gw (i := 234) (by decide +kernel) rfl, tyX2_ok, nmX2⟩
theorem fl_X2_57 : Fl RX2 57 1 7 := ⟨RX2, TX2, 9, tyX2, rfl, inW2, by decide, gw (i := 233) (by decide +kernel) rfl, tyX2_ok, nmX2⟩
theorem fl_X3_9 : Fl RX3 9 2 0 := ⟨RX3, TX3, 4, tyX3, rfl, inW3, by decide, gw (i := 205) (by decide +kernel) rfl, tyX3_ok, nmX3⟩
theorem fl_X3_15 : Fl RX3 15 2 1 := ⟨RX3, TX3, 4, tyX3, rfl, inW3, by decide, gw (i := 206) (by decide +kernel) rfl, tyX3_ok, nmX3⟩
theorem fl_X3_18 : Fl RX3 18 2 2 := ⟨RX3, TX3, 4, tyX3, rfl, inW3, by decide, gw (i := 207) (by decide +kernel) rfl, tyX3_ok, nmX3⟩
theorem fl_X3_32 : Fl RX3 32 2 3 := ⟨RX3, TX3, 4, tyX3, rfl, inW3, by decide, gw (i := 208) (by decide +kernel) rfl, tyX3_ok, nmX3⟩
theorem fl_X3_59 : Fl RX3 59 5 2 := ⟨RX7, TX7, 8, tyX7, rfl, inW7, by decide, gw (i := 119) (by decide +kernel) rfl, tyX7_ok, nmX7⟩
theorem fl_X3_93 : Fl RX3 93 6 2 := ⟨RX8, TX8, 12, tyX8, rfl, inW8, by decide, gw (i := 161) (by decide +kernel) rfl, tyX8_ok, nmX8⟩
theorem fl_X3_96 : Fl RX3 96 6 0 := ⟨RX8, TX8, 12, tyX8, rfl, inW8, by decide, gw (i := 155) (by decide +kernel) rfl, tyX8_ok, nmX8⟩
theorem fl_X4_11 : Fl RX4 11 3 0 := ⟨RX4, TX4, 7, tyX4, rfl, inW4, by decide, gw (i := 55) (by decide +kernel) rfl, tyX4_ok, nmX4⟩
theorem fl_X4_17 : Fl RX4 17 3 1 := ⟨RX4, TX4, 7, tyX4, rfl, inW4, by decide, gw (i := 57) (by decide +kernel) rfl, tyX4_ok, nmX4⟩
theorem fl_X4_20 : Fl RX4 20 3 3 := ⟨RX4, TX4, 7, tyX4, rfl, inW4, by decide, gw (i := 61) (by decide +kernel) rfl, tyX4_ok, nmX4⟩
theorem fl_X4_23 : Fl RX4 23 3 4 := ⟨RX4, TX4, 7, tyX4, rfl, inW4, by decide, gw (i := 62) (by decide +kernel) rfl, tyX4_ok, nmX4⟩
theorem fl_X4_27 : Fl RX4 27 3 5 := ⟨RX4, TX4, 7, tyX4, rfl, inW4, by decide, gw (i := 63) (by decide +kernel) rfl, tyX4_ok, nmX4⟩
theorem fl_X4_31 : Fl RX4 31 3 2 := ⟨RX4, TX4, 7, tyX4, rfl, inW4, by decide, gw (i := 59) (by decide +kernel) rfl, tyX4_ok, nmX4⟩
theorem fl_X4_78 : Fl RX4 78 7 1 := ⟨RX9, TX9, 2, tyX9, rfl, inW9, by decide, gw (i := 41) (by decide +kernel) rfl, tyX9_ok, nmX9⟩
theorem fl_X4_100 : Fl RX4 100 3 6 := ⟨RX4, TX4, 7, tyX4, rfl, inW4, by decide, gw (i := 64) (by decide +kernel) rfl, tyX4_ok, nmX4⟩
theorem fl_X6_11 : Fl RX6 11 4 0 := ⟨RX6, TX6, 3, tyX6, rfl, inW6, by decide, gw (i := 86) (by decide +kernel) rfl, tyX6_ok, nmX6⟩
theorem fl_X6_15 : Fl RX6 15 4 1 := ⟨RX6, TX6, 3, tyX6, rfl, inW6, by decide, gw (i := 87) (by decide +kernel) rfl, tyX6_ok, nmX6⟩
theorem fl_X6_18 : Fl RX6 18 4 2 := ⟨RX6, TX6, 3, tyX6, rfl, inW6, by decide, gw (i := 88) (by decide +kernel) rfl, tyX6_ok, nmX6⟩
theorem fl_X7_9 : Fl RX7 9 5 0 := ⟨RX7, TX7, 8, tyX7, rfl, inW7, by decide, gw (i := 111) (by decide +kernel) rfl, tyX7_ok, nmX7⟩
theorem fl_X7_15 : Fl RX7 15 5 1 := ⟨RX7, TX7, 8, tyX7, rfl, inW7, by decide, gw (i := 114) (by decide +kernel) rfl, tyX7_ok, nmX7⟩
theorem fl_X7_18 : Fl RX7 18 5 2 := ⟨RX7, TX7, 8, tyX7, rfl, inW7, by decide, gw (i := 117) (by decide +kernel) rfl, tyX7_ok, nmX7⟩
theorem fl_X7_23 : Fl RX7 23 5 3 := ⟨RX7, TX7, 8, tyX7, rfl, inW7, by decide, gw (i := 123) (by decide +kernel) rfl, tyX7_ok, nmX7⟩
theorem fl_X7_26 : Fl RX7 26 5 4 := ⟨RX7, TX7, 8, tyX7, rfl, inW7, by decide, gw (i := 126) (by decide +kernel) rfl, tyX7_ok, nmX7⟩
theorem fl_X8_9 : Fl RX8 9 6 0 := ⟨RX8, TX8, 12, tyX8, rfl, inW8, by decide, gw (i := 154) (by decide +kernel) rfl, tyX8_ok, nmX8⟩
theorem fl_X8_15 : Fl RX8 15 6 1 := ⟨RX8, TX8, 12, tyX8, rfl, inW8, by decide, gw (i := 157) (by decide +kernel) rfl, tyX8_ok, nmX8⟩
theorem fl_X8_18 : Fl RX8 18 6 2 := ⟨RX8, TX8, 12, tyX8, rfl, inW8, by decide, gw (i := 159) (by decide +kernel) rfl, tyX8_ok, nmX8⟩
theorem fl_X8_24 : Fl RX8 24 6 3 := ⟨RX8, TX8, 12, tyX8, rfl, inW8, by decide, gw (i := 163) (by decide +kernel) rfl, tyX8_ok, nmX8⟩
theorem fl_X8_28 : Fl RX8 28 6 4 := ⟨RX8, TX8, 12, tyX8, rfl, inW8, by decide, gw (i := 166) (by decide +kernel) rfl, tyX8_ok, nmX8⟩
theorem fl_X8_31 : Fl RX8 31 6 5 := ⟨RX8, TX8, 12, tyX8, rfl, inW8, by decide, gw (i := 167) (by decide +kernel) rfl, tyX8_ok, nmX8⟩
theorem fl_X8_36 : Fl RX8 36 6 7 := ⟨RX8, TX8, 12, tyX8, rfl, inW8, by decide, gw (i := 169) (by decide +kernel) rfl, tyX8_ok, nmX8⟩
theorem fl_X8_41 : Fl RX8 41 6 8 := ⟨RX8, TX8, 12, tyX8, rfl, inW8, by decide, gw (i := 170) (by decide +kernel) rfl, tyX8_ok, nmX8⟩
theorem fl_X8_44 : Fl RX8 44 6 9 := ⟨RX8, TX8, 12, tyX8, rfl, inW8, by decide, gw (i := 171) (by decide +kernel) rfl, tyX8_ok, nmX8⟩
theorem fl_X8_47 : Fl RX8 47 6 10 := ⟨RX8, TX8, 12, tyX8, rfl, inW8, by decide, gw (i := 172) (by decide +kernel) rfl, tyX8_ok, nmX8⟩
theorem fl_X8_50 : Fl RX8 50 6 6 := ⟨RX8, TX8, 12, tyX8, rfl, inW8, by decide, gw (i := 168) (by decide +kernel) rfl, tyX8_ok, nmX8⟩
theorem fl_X8_62 : Fl RX8 62 6 11 := ⟨RX8, TX8, 12, tyX8, rfl, inW8, by decide, gw (i := 173) (by decide +kernel) rfl, tyX8_ok, nmX8⟩
theorem fl_X8_77 : Fl RX8 77 5 7 := ⟨RX7, TX7, 8, tyX7, rfl, inW7, by decide, gw (i := 135) (by decide +kernel) rfl, tyX7_ok, nmX7⟩
theorem fl_X8_91 : Fl RX8 91 5 1 := ⟨RX7, TX7, 8, tyX7, rfl, inW7, by decide, gw (i := 115) (by decide +kernel) rfl, tyX7_ok, nmX7⟩
theorem fl_X8_94 : Fl RX8 94 5 3 := ⟨RX7, TX7, 8, tyX7, rfl, inW7, by decide, gw (i := 124) (by decide +kernel) rfl, tyX7_ok, nmX7⟩
theorem fl_X8_97 : Fl RX8 97 5 4 := ⟨RX7, TX7, 8, tyX7, rfl, inW7, by decide, gw (i := 127) (by decide +kernel) rfl, tyX7_ok, nmX7⟩
theorem fl_X8_108 : Fl RX8 108 5 5 := ⟨RX7, TX7, 8, tyX7, rfl, inW7, by decide, gw (i := 130) (by decide +kernel) rfl, tyX7_ok, nmX7⟩
theorem fl_X8_112 : Fl RX8 112 5 6 := ⟨RX7, TX7, 8, tyX7, rfl, inW7, by decide, gw (i := 134) (by decide +kernel) rfl, tyX7_ok, nmX7⟩
theorem fl_X8_125 : Fl RX8 125 5 0 := ⟨RX7, TX7, 8, tyX7, rfl, inW7, by decide, gw (i := 113) (by decide +kernel) rfl, tyX7_ok, nmX7⟩
theorem fl_X8_152 : Fl RX8 152 5 2 := ⟨RX7, TX7, 8, tyX7, rfl, inW7, by decide, gw (i := 122) (by decide +kernel) rfl, tyX7_ok, nmX7⟩
theorem fl_X9_9 : Fl RX9 9 7 0 := ⟨RX9, TX9, 2, tyX9, rfl, inW9, by decide, gw (i := 38) (by decide +kernel) rfl, tyX9_ok, nmX9⟩
theorem fl_X9_13 : Fl RX9 13 7 1 := ⟨RX9, TX9, 2, tyX9, rfl, inW9, by decide, gw (i := 40) (by decide +kernel) rfl, tyX9_ok, nmX9⟩
theorem fl_X10_11 : Fl RX10 11 8 10 := ⟨RX10, TX10, 15, tyX10, rfl, inW10, by decide, gw (i := 281) (by decide +kernel) rfl, tyX10_ok, nmX10⟩
theorem fl_X10_15 : Fl RX10 15 8 11 := ⟨RX10, TX10, 15, tyX10, rfl, inW10, by decide, gw (i := 282) (by decide +kernel) rfl, tyX10_ok, nmX10⟩
theorem fl_X10_19 : Fl RX10 19 8 8 := ⟨RX10, TX10, 15, tyX10, rfl, inW10, by decide, gw (i := 279) (by decide +kernel) rfl, tyX10_ok, nmX10⟩
theorem fl_X10_23 : Fl RX10 23 8 9 := ⟨RX10, TX10, 15, tyX10, rfl, inW10, by decide, gw (i := 280) (by decide +kernel) rfl, tyX10_ok, nmX10⟩
theorem fl_X10_27 : Fl RX10 27 6 4 := ⟨RX8, TX8, 12, tyX8, rfl, inW8, by decide, gw (i := 165) (by decide +kernel) rfl, tyX8_ok, nmX8⟩
theorem fl_X10_34 : Fl RX10 34 8 12 := ⟨RX10, TX10, 15, tyX10, rfl, inW10, by decide, gw (i := 283) (by decide +kernel) rfl, tyX10_ok, nmX10⟩
theorem fl_X10_38 : Fl RX10 38 8 13 := ⟨RX10, TX10, 15, tyX10, rfl, inW10, by decide, gw (i := 284) (by decide +kernel) rfl, tyX10_ok, nmX10⟩
theorem fl_X10_44 : Fl RX10 44 8 14 := ⟨RX10, TX10, 15, tyX10, rfl, inW10, by decide, gw (i := 285) (by decide +kernel) rfl, tyX10_ok, nmX10⟩
theorem fl_X10_48 : Fl RX10 48 8 3 := ⟨RX10, TX10, 15, tyX10, rfl, inW10, by decide, gw (i := 269) (by decide +kernel) rfl, tyX10_ok, nmX10⟩
theorem fl_X10_50 : Fl RX10 50 8 4 := ⟨RX10, TX10, 15, tyX10, rfl, inW10, by decide, gw (i := 271) (by decide +kernel) rfl, tyX10_ok, nmX10⟩
theorem fl_X10_53 : Fl RX10 53 8 5 := ⟨RX10, TX10, 15, tyX10, rfl, inW10, by decide, gw (i := 273) (by decide +kernel) rfl, tyX10_ok, nmX10⟩
theorem fl_X10_56 : Fl RX10 56 8 6 := ⟨RX10, TX10, 15, tyX10, rfl, inW10, by decide, gw (i := 275) (by decide +kernel) rfl, tyX10_ok, nmX10⟩
theorem fl_X10_59 : Fl RX10 59 8 7 := ⟨RX10, TX10, 15, tyX10, rfl, inW10, by decide, gw (i := 277) (by decide +kernel) rfl, tyX10_ok, nmX10⟩
theorem fl_X10_82 : Fl RX10 82 5 2 := ⟨RX7, TX7, 8, tyX7, rfl, inW7, by decide, gw (i := 120) (by decide +kernel) rfl, tyX7_ok, nmX7⟩
theorem fl_X10_97 : Fl RX10 97 5 5 := ⟨RX7, TX7, 8, tyX7, rfl, inW7, by decide, gw (i := 129) (by decide +kernel) rfl, tyX7_ok, nmX7⟩
theorem fl_X10_103 : Fl RX10 103 6 2 := ⟨RX8, TX8, 12, tyX8, rfl, inW8, by decide, gw (i := 160) (by decide +kernel) rfl, tyX8_ok, nmX8⟩
theorem fl_X10_110 : Fl RX10 110 5 6 := ⟨RX7, TX7, 8, tyX7, rfl, inW7, by decide, gw (i := 132) (by decide +kernel) rfl, tyX7_ok, nmX7⟩
theorem fl_X10_120 : Fl RX10 120 8 0 := ⟨RX10, TX10, 15, tyX10, rfl, inW10, by decide, gw (i := 263) (by decide +kernel) rfl, tyX10_ok, nmX10⟩
theorem fl_X10_123 : Fl RX10 123 8 1 := ⟨RX10, TX10, 15, tyX10, rfl, inW10, by decide, gw (i := 265) (by decide +kernel) rfl, tyX10_ok, nmX10⟩
theorem fl_X10_126 : Fl RX10 126 8 2 := ⟨RX10, TX10, 15, tyX10, rfl, inW10, by decide, gw (i := 267) (by decide +kernel) rfl, tyX10_ok, nmX10⟩
theorem fl_X12_9 : Fl RX12 9 10 1 := ⟨RX12, TX12, 45, tyX12, rfl, inW12, by decide, gw (i := 1074) (by decide +kernel) rfl, tyX12_ok, nmX12⟩
theorem fl_X12_13 : Fl RX12 13 10 5 := ⟨RX12, TX12, 45, tyX12, rfl, inW12, by decide, gw (i := 1078) (by decide +kernel) rfl, tyX12_ok, nmX12⟩
theorem fl_X12_17 : Fl RX12 17 10 6 := ⟨RX12, TX12, 45, tyX12, rfl, inW12, by decide, gw (i := 1079) (by decide +kernel) rfl, tyX12_ok, nmX12⟩
theorem fl_X12_20 : Fl RX12 20 10 7 := ⟨RX12, TX12, 45, tyX12, rfl, inW12, by decide, gw (i := 1080) (by decide +kernel) rfl, tyX12_ok, nmX12⟩
theorem fl_X12_23 : Fl RX12 23 10 8 := ⟨RX12, TX12, 45, tyX12, rfl, inW12, by decide, gw (i := 1081) (by decide +kernel) rfl, tyX12_ok, nmX12⟩
theorem fl_X12_26 : Fl RX12 26 10 9 := ⟨RX12, TX12, 45, tyX12, rfl, inW12, by decide, gw (i := 1082) (by decide +kernel) rfl, tyX12_ok, nmX12⟩
theorem fl_X12_29 : Fl RX12 29 10 10 := ⟨RX12, TX12, 45, tyX12, rfl, inW12, by decide, gw (i := 1083) (by decide +kernel) rfl, tyX12_ok, nmX12⟩
theorem fl_X12_32 : Fl RX12 32 10 11 := ⟨RX12, TX12, 45, tyX12, rfl, inW12, by decide, gw (i := 1084) (by decide +kernel) rfl, tyX12_ok, nmX12⟩
theorem fl_X12_35 : Fl RX12 35 10 12 := ⟨RX12, TX12, 45, tyX12, rfl, inW12, by decide, gw (i := 1085) (by decide +kernel) rfl, tyX12_ok, nmX12⟩
theorem fl_X12_38 : Fl RX12 38 10 20 := ⟨RX12, TX12, 45, tyX12, rfl, inW12, by decide, gw (i := 1093) (by decide +kernel) rfl, tyX12_ok, nmX12⟩
theorem fl_X12_41 : Fl RX12 41 10 21 := ⟨RX12, TX12, 45, tyX12, rfl, inW12, by decide, gw (i := 1094) (by decide +kernel) rfl, tyX12_ok, nmX12⟩
theorem fl_X12_44 : Fl RX12 44 10 22 := ⟨RX12, TX12, 45, tyX12, rfl, inW12, by decide, gw (i := 1095) (by decide +kernel) rfl, tyX12_ok, nmX12⟩
theorem fl_X12_47 : Fl RX12 47 10 23 := ⟨RX12, TX12, 45, tyX12, rfl, inW12, by decide, gw (i := 1096) (by decide +kernel) rfl, tyX12_ok, nmX12⟩
theorem fl_X12_50 : Fl RX12 50 10 28 := ⟨RX12, TX12, 45, tyX12, rfl, inW12, by decide, gw (i := 1101) (by decide +kernel) rfl, tyX12_ok, nmX12⟩
theorem fl_X12_53 : Fl RX12 53 10 29 := ⟨RX12, TX12, 45, tyX12, rfl, inW12, by decide, gw (i := 1102) (by decide +kernel) rfl, tyX12_ok, nmX12⟩
theorem fl_X12_56 : Fl RX12 56 10 30 := ⟨RX12, TX12, 45, tyX12, rfl, inW12, by decide, gw (i := 1103) (by decide +kernel) rfl, tyX12_ok, nmX12⟩
theorem fl_X12_60 : Fl RX12 60 10 31 := ⟨RX12, TX12, 45, tyX12, rfl, inW12, by decide, gw (i := 1104) (by decide +kernel) rfl, tyX12_ok, nmX12⟩
theorem fl_X12_64 : Fl RX12 64 10 32 := ⟨RX12, TX12, 45, tyX12, rfl, inW12, by decide, gw (i := 1105) (by decide +kernel) rfl, tyX12_ok, nmX12⟩
theorem fl_X12_67 : Fl RX12 67 10 35 := ⟨RX12, TX12, 45, tyX12, rfl, inW12, by decide, gw (i := 1108) (by decide +kernel) rfl, tyX12_ok, nmX12⟩
theorem fl_X12_70 : Fl RX12 70 10 37 := ⟨RX12, TX12, 45, tyX12, rfl, inW12, by decide, gw (i := 1110) (by decide +kernel) rfl, tyX12_ok, nmX12⟩
theorem fl_X12_73 : Fl RX12 73 10 39 := ⟨RX12, TX12, 45, tyX12, rfl, inW12, by decide, gw (i := 1112) (by decide +kernel) rfl, tyX12_ok, nmX12⟩
theorem fl_X12_76 : Fl RX12 76 10 40 := ⟨RX12, TX12, 45, tyX12, rfl, inW12, by decide, gw (i := 1113) (by decide +kernel) rfl, tyX12_ok, nmX12⟩
theorem fl_X12_79 : Fl RX12 79 10 44 := ⟨RX12, TX12, 45, tyX12, rfl, inW12, by decide, gw (i := 1117) (by decide +kernel) rfl, tyX12_ok, nmX12⟩
theorem fl_X12_82 : Fl RX12 82 10 0 := ⟨RX12, TX12, 45, tyX12, rfl, inW12, by decide, gw (i := 1073) (by decide +kernel) rfl, tyX12_ok, nmX12⟩
theorem fl_X12_86 : Fl RX12 86 10 2 := ⟨RX12, TX12, 45, tyX12, rfl, inW12, by decide, gw (i := 1075) (by decide +kernel) rfl, tyX12_ok, nmX12⟩
theorem fl_X12_97 : Fl RX12 97 10 3 := ⟨RX12, TX12, 45, tyX12, rfl, inW12, by decide, gw (i := 1076) (by decide +kernel) rfl, tyX12_ok, nmX12⟩
theorem fl_X12_104 : Fl RX12 104 10 4 := ⟨RX12, TX12, 45, tyX12, rfl, inW12, by decide, gw (i := 1077) (by decide +kernel) rfl, tyX12_ok, nmX12⟩
theorem fl_X12_128 : Fl RX12 128 10 18 := ⟨RX12, TX12, 45, tyX12, rfl, inW12, by decide, gw (i := 1091) (by decide +kernel) rfl, tyX12_ok, nmX12⟩
theorem fl_X12_134 : Fl RX12 134 10 19 := ⟨RX12, TX12, 45, tyX12, rfl, inW12, by decide, gw (i := 1092) (by decide +kernel) rfl, tyX12_ok, nmX12⟩
theorem fl_X12_152 : Fl RX12 152 10 13 := ⟨RX12, TX12, 45, tyX12, rfl, inW12, by decide, gw (i := 1086) (by decide +kernel) rfl, tyX12_ok, nmX12⟩
theorem fl_X12_155 : Fl RX12 155 10 14 := ⟨RX12, TX12, 45, tyX12, rfl, inW12, by decide, gw (i := 1087) (by decide +kernel) rfl, tyX12_ok, nmX12⟩
theorem fl_X12_175 : Fl RX12 175 10 15 := ⟨RX12, TX12, 45, tyX12, rfl, inW12, by decide, gw (i := 1088) (by decide +kernel) rfl, tyX12_ok, nmX12⟩
theorem fl_X12_202 : Fl RX12 202 10 17 := ⟨RX12, TX12, 45, tyX12, rfl, inW12, by decide, gw (i := 1090) (by decide +kernel) rfl, tyX12_ok, nmX12⟩
theorem fl_X12_214 : Fl RX12 214 10 25 := ⟨RX12, TX12, 45, tyX12, rfl, inW12, by decide, gw (i := 1098) (by decide +kernel) rfl, tyX12_ok, nmX12⟩
theorem fl_X12_217 : Fl RX12 217 10 26 := ⟨RX12, TX12, 45, tyX12, rfl, inW12, by decide, gw (i := 1099) (by decide +kernel) rfl, tyX12_ok, nmX12⟩
theorem fl_X12_220 : Fl RX12 220 10 16 := ⟨RX12, TX12, 45, tyX12, rfl, inW12, by decide, gw (i := 1089) (by decide +kernel) rfl, tyX12_ok, nmX12⟩
theorem fl_X12_234 : Fl RX12 234 10 27 := ⟨RX12, TX12, 45, tyX12, rfl, inW12, by decide, gw (i := 1100) (by decide +kernel) rfl, tyX12_ok, nmX12⟩
theorem fl_X12_316 : Fl RX12 316 10 33 := ⟨RX12, TX12, 45, tyX12, rfl, inW12, by decide, gw (i := 1106) (by decide +kernel) rfl, tyX12_ok, nmX12⟩
theorem fl_X12_329 : Fl RX12 329 10 34 := ⟨RX12, TX12, 45, tyX12, rfl, inW12, by decide, gw (i := 1107) (by decide +kernel) rfl, tyX12_ok, nmX12⟩
theorem fl_X12_350 : Fl RX12 350 10 24 := ⟨RX12, TX12, 45, tyX12, rfl, inW12, by decide, gw (i := 1097) (by decide +kernel) rfl, tyX12_ok, nmX12⟩
theorem fl_X12_372 : Fl RX12 372 10 36 := ⟨RX12, TX12, 45, tyX12, rfl, inW12, by decide, gw (i := 1109) (by decide +kernel) rfl, tyX12_ok, nmX12⟩
theorem fl_X12_402 : Fl RX12 402 10 38 := ⟨RX12, TX12, 45, tyX12, rfl, inW12, by decide, gw (i := 1111) (by decide +kernel) rfl, tyX12_ok, nmX12⟩
theorem fl_X12_423 : Fl RX12 423 10 41 := ⟨RX12, TX12, 45, tyX12, rfl, inW12, by decide, gw (i := 1114) (by decide +kernel) rfl, tyX12_ok, nmX12⟩
theorem fl_X12_426 : Fl RX12 426 10 42 := ⟨RX12, TX12, 45, tyX12, rfl, inW12, by decide, gw (i := 1115) (by decide +kernel) rfl, tyX12_ok, nmX12⟩
theorem fl_X12_429 : Fl RX12 429 10 43 := ⟨RX12, TX12, 45, tyX12, rfl, inW12, by decide, gw (i := 1116) (by decide +kernel) rfl, tyX12_ok, nmX12⟩
theorem kc_X11_200 : Cond.constantLong RX11 200 (-1000000 : Int64) ∈ gW := gw (i := 560) (by decide +kernel) rfl
theorem kc_X11_202 : Cond.constantLong RX11 202 (-1 : Int64) ∈ gW := gw (i := 561) (by decide +kernel) rfl
theorem kc_X11_254 : Cond.constantLong RX11 254 (6364136223846793005 : Int64) ∈ gW := gw (i := 737) (by decide +kernel) rfl
theorem kc_X11_256 : Cond.constantLong RX11 256 (1442695040888963407 : Int64) ∈ gW := gw (i := 738) (by decide +kernel) rfl
theorem kc_X11_268 : Cond.constant RX11 268 (-1000000 : Int32) ∈ gW := gw (i := 759) (by decide +kernel) rfl
theorem kc_X1_30 : Cond.constant RX1 30 (1000000000 : Int32) ∈ gW := gw (i := 816) (by decide +kernel) rfl
theorem kc_X1_38 : Cond.constantLong RX1 38 (100 : Int64) ∈ gW := gw (i := 817) (by decide +kernel) rfl
theorem kc_X2_56 : Cond.constant RX2 56 (-1000000 : Int32) ∈ gW := gw (i := 765) (by decide +kernel) rfl
theorem kc_X10_47 : Cond.constant RX10 47 (163840 : Int32) ∈ gW := gw (i := 778) (by decide +kernel) rfl
theorem kc_X12_59 : Cond.constant RX12 59 (62640 : Int32) ∈ gW := gw (i := 1072) (by decide +kernel) rfl
theorem kc_X12_191 : Cond.constantLong RX12 191 (2 : Int64) ∈ gW := gw (i := 1232) (by decide +kernel) rfl
theorem kc_X12_244 : Cond.constantLong RX12 244 (10 : Int64) ∈ gW := gw (i := 1495) (by decide +kernel) rfl
theorem kc_X12_308 : Cond.constantLong RX12 308 (9999 : Int64) ∈ gW := gw (i := 1412) (by decide +kernel) rfl
theorem kc_X12_314 : Cond.constantLong RX12 314 (999 : Int64) ∈ gW := gw (i := 1416) (by decide +kernel) rfl
theorem kc_X12_376 : Cond.constantLong RX12 376 (6364136223846793005 : Int64) ∈ gW := gw (i := 1565) (by decide +kernel) rfl
theorem kc_X12_378 : Cond.constantLong RX12 378 (1442695040888963407 : Int64) ∈ gW := gw (i := 1566) (by decide +kernel) rfl
theorem kc_X12_383 : Cond.constantLong RX12 383 (40 : Int64) ∈ gW := gw (i := 1556) (by decide +kernel) rfl
theorem kc_X12_388 : Cond.constantLong RX12 388 (3 : Int64) ∈ gW := gw (i := 1571) (by decide +kernel) rfl
theorem kc_X12_390 : Cond.constant RX12 390 (-1000000 : Int32) ∈ gW := gw (i := 1580) (by decide +kernel) rfl
theorem kc_X12_391 : Cond.constantLong RX12 391 (13 : Int64) ∈ gW := gw (i := 1593) (by decide +kernel) rfl
theorem kc_X12_393 : Cond.constantLong RX12 393 (4 : Int64) ∈ gW := gw (i := 1602) (by decide +kernel) rfl
theorem kc_X12_395 : Cond.constantLong RX12 395 (-1000000 : Int64) ∈ gW := gw (i := 1607) (by decide +kernel) rfl
theorem kc_X12_397 : Cond.constantLong RX12 397 (-1 : Int64) ∈ gW := gw (i := 1608) (by decide +kernel) rfl
theorem kc_X12_416 : Cond.constant RX12 416 (2147483647 : Int32) ∈ gW := gw (i := 1637) (by decide +kernel) rfl
theorem kc_X12_432 : Cond.constant RX12 432 (1000000000 : Int32) ∈ gW := gw (i := 1654) (by decide +kernel) rfl
theorem kc_X12_436 : Cond.constantLong RX12 436 (100 : Int64) ∈ gW := gw (i := 1659) (by decide +kernel) rfl
theorem kc_X12_447 : Cond.constantLong RX12 447 (-99 : Int64) ∈ gW := gw (i := 1708) (by decide +kernel) rfl
theorem kc_X12_449 : Cond.constantLong RX12 449 (99 : Int64) ∈ gW := gw (i := 1709) (by decide +kernel) rfl
theorem jmx : Cond.static Lib.Math.max.name ∈ gW ∧ Cond.initialized "java/lang/Math" ∈ gW ∧ Cond.code Lib.Math.max.name Lib.Math.max.code 2 (some .int) ∈ gW := ⟨gw (i := 494) (by decide +kernel) rfl, gw (i := 18) (by decide +kernel) rfl, gw (i := 495) (by decide +kernel) (by decide +kernel)⟩
theorem jmn : Cond.static Lib.Math.min.name ∈ gW ∧ Cond.initialized "java/lang/Math" ∈ gW ∧ Cond.code Lib.Math.min.name Lib.Math.min.code 2 (some .int) ∈ gW := ⟨gw (i := 491) (by decide +kernel) rfl, gw (i := 18) (by decide +kernel) rfl, gw (i := 492) (by decide +kernel) (by decide +kernel)⟩
theorem jcp : Cond.native arraycopyName ∈ gW ∧ Cond.static arraycopyName ∈ gW ∧ Cond.initialized "java/lang/System" ∈ gW := ⟨gw (i := 406) (by decide +kernel) rfl, gw (i := 405) (by decide +kernel) rfl, gw (i := 13) (by decide +kernel) rfl⟩
theorem ml_X11_93 : Cond.methodLink RX11 93 yX9_countBytes ∈ gW := gw (i := 379) (by decide +kernel) rfl
theorem ml_X11_101 : Cond.methodLink RX11 101 yX9_addBytes ∈ gW := gw (i := 383) (by decide +kernel) rfl
theorem ml_X11_105 : Cond.methodLink RX11 105 yX4_examine ∈ gW := gw (i := 395) (by decide +kernel) rfl
theorem ml_X11_111 : Cond.methodLink RX11 111 yX11_noLoan ∈ gW := gw (i := 469) (by decide +kernel) rfl
theorem ml_X11_119 : Cond.methodLink RX11 119 yX6_take ∈ gW := gw (i := 473) (by decide +kernel) rfl
theorem ml_X11_123 : Cond.methodLink RX11 123 yX11_takeLoan ∈ gW := gw (i := 478) (by decide +kernel) rfl
theorem ml_X11_127 : Cond.methodLink RX11 127 yX11_takePolicy ∈ gW := gw (i := 516) (by decide +kernel) rfl
theorem ml_X11_133 : Cond.methodLink RX11 133 arraycopyName ∈ gW := gw (i := 482) (by decide +kernel) rfl
theorem ml_X11_139 : Cond.methodLink RX11 139 yJ7_fill_53178 ∈ gW := gw (i := 483) (by decide +kernel) rfl
theorem ml_X11_145 : Cond.methodLink RX11 145 yX8_nodeOf ∈ gW := gw (i := 484) (by decide +kernel) rfl
theorem ml_X11_149 : Cond.methodLink RX11 149 yX8_bounded ∈ gW := gw (i := 487) (by decide +kernel) rfl
theorem ml_X11_152 : Cond.methodLink RX11 152 yX4_part ∈ gW := gw (i := 496) (by decide +kernel) rfl
theorem ml_X11_155 : Cond.methodLink RX11 155 yX11_takeClause ∈ gW := gw (i := 500) (by decide +kernel) rfl
theorem ml_X11_159 : Cond.methodLink RX11 159 yX2_clear ∈ gW := gw (i := 508) (by decide +kernel) rfl
theorem ml_X11_162 : Cond.methodLink RX11 162 yX8_forget ∈ gW := gw (i := 512) (by decide +kernel) rfl
theorem ml_X11_165 : Cond.methodLink RX11 165 yX11_isNode ∈ gW := gw (i := 504) (by decide +kernel) rfl
theorem ml_X11_169 : Cond.methodLink RX11 169 yJ7_fill_fda19 ∈ gW := gw (i := 520) (by decide +kernel) rfl
theorem ml_X11_172 : Cond.methodLink RX11 172 yX0_setDeed ∈ gW := gw (i := 521) (by decide +kernel) rfl
theorem ml_X11_175 : Cond.methodLink RX11 175 yX0_deedOf ∈ gW := gw (i := 524) (by decide +kernel) rfl
theorem ml_X11_186 : Cond.methodLink RX11 186 yX8_look ∈ gW := gw (i := 535) (by decide +kernel) rfl
theorem ml_X11_191 : Cond.methodLink RX11 191 yX8_interestOf ∈ gW := gw (i := 552) (by decide +kernel) rfl
theorem ml_X11_204 : Cond.methodLink RX11 204 yX8_reckon ∈ gW := gw (i := 562) (by decide +kernel) rfl
theorem ml_X11_216 : Cond.methodLink RX11 216 yX8_lastAllowed ∈ gW := gw (i := 615) (by decide +kernel) rfl
theorem ml_X11_219 : Cond.methodLink RX11 219 yX8_costOf ∈ gW := gw (i := 616) (by decide +kernel) rfl
theorem ml_X11_226 : Cond.methodLink RX11 226 yX11_act ∈ gW := gw (i := 625) (by decide +kernel) rfl
theorem ml_X11_230 : Cond.methodLink RX11 230 yX2_save ∈ gW := gw (i := 629) (by decide +kernel) rfl
theorem ml_X11_233 : Cond.methodLink RX11 233 yX3_attempt ∈ gW := gw (i := 634) (by decide +kernel) rfl
theorem ml_X11_240 : Cond.methodLink RX11 240 yX2_enter ∈ gW := gw (i := 684) (by decide +kernel) rfl
theorem ml_X11_248 : Cond.methodLink RX11 248 yX11_chooseByDraws ∈ gW := gw (i := 729) (by decide +kernel) rfl
theorem ml_X11_251 : Cond.methodLink RX11 251 yX11_draw ∈ gW := gw (i := 733) (by decide +kernel) rfl
theorem ml_X11_258 : Cond.methodLink RX11 258 yX2_takeBack ∈ gW := gw (i := 747) (by decide +kernel) rfl
theorem ml_X11_265 : Cond.methodLink RX11 265 yX2_shown ∈ gW := gw (i := 755) (by decide +kernel) rfl
theorem ml_X11_269 : Cond.methodLink RX11 269 yX2_entry ∈ gW := gw (i := 760) (by decide +kernel) rfl
theorem ml_X11_272 : Cond.methodLink RX11 272 yX11_closed ∈ gW := gw (i := 770) (by decide +kernel) rfl
theorem ml_X11_275 : Cond.methodLink RX11 275 yX10_go ∈ gW := gw (i := 774) (by decide +kernel) rfl
theorem ml_X11_288 : Cond.methodLink RX11 288 yX1_pour ∈ gW := gw (i := 810) (by decide +kernel) rfl
theorem ml_X11_295 : Cond.methodLink RX11 295 yX1_atTheEnd ∈ gW := gw (i := 822) (by decide +kernel) rfl
theorem ml_X11_298 : Cond.methodLink RX11 298 yX1_stopped ∈ gW := gw (i := 826) (by decide +kernel) rfl
theorem ml_X11_301 : Cond.methodLink RX11 301 yX11_here ∈ gW := gw (i := 834) (by decide +kernel) rfl
theorem ml_X11_304 : Cond.methodLink RX11 304 yX11_costHere ∈ gW := gw (i := 838) (by decide +kernel) rfl
theorem ml_X11_315 : Cond.methodLink RX11 315 yX8_build ∈ gW := gw (i := 842) (by decide +kernel) rfl
theorem ml_X11_319 : Cond.methodLink RX11 319 yX8_mayCall ∈ gW := gw (i := 847) (by decide +kernel) rfl
theorem ml_X11_323 : Cond.methodLink RX11 323 Lib.Math.min.name ∈ gW := gw (i := 848) (by decide +kernel) rfl
theorem ml_X11_331 : Cond.methodLink RX11 331 yX11_weighedHere ∈ gW := gw (i := 853) (by decide +kernel) rfl
theorem ml_X11_335 : Cond.methodLink RX11 335 yX11_tillWithNotice ∈ gW := gw (i := 859) (by decide +kernel) rfl
theorem ml_X11_339 : Cond.methodLink RX11 339 yX11_tillAtOnce ∈ gW := gw (i := 863) (by decide +kernel) rfl
theorem ml_X11_342 : Cond.methodLink RX11 342 yX8_dueAt ∈ gW := gw (i := 857) (by decide +kernel) rfl
theorem ml_X11_345 : Cond.methodLink RX11 345 yX8_weigh ∈ gW := gw (i := 858) (by decide +kernel) rfl
theorem ml_X11_356 : Cond.methodLink RX11 356 yX11_leavesAt ∈ gW := gw (i := 867) (by decide +kernel) rfl
theorem ml_X11_360 : Cond.methodLink RX11 360 yX8_couponAt ∈ gW := gw (i := 871) (by decide +kernel) rfl
theorem ml_X11_363 : Cond.methodLink RX11 363 yX8_renewalAt ∈ gW := gw (i := 872) (by decide +kernel) rfl
theorem ml_X11_366 : Cond.methodLink RX11 366 yX8_leastDeed ∈ gW := gw (i := 913) (by decide +kernel) rfl
theorem ml_X11_369 : Cond.methodLink RX11 369 yX11_mendsTrial ∈ gW := gw (i := 918) (by decide +kernel) rfl
theorem ml_X11_387 : Cond.methodLink RX11 387 yX6_has ∈ gW := gw (i := 934) (by decide +kernel) rfl
theorem ml_X11_390 : Cond.methodLink RX11 390 yX6_sizeOf ∈ gW := gw (i := 938) (by decide +kernel) rfl
theorem ml_X11_393 : Cond.methodLink RX11 393 yX6_number ∈ gW := gw (i := 943) (by decide +kernel) rfl
theorem ml_X11_395 : Cond.methodLink RX11 395 yX11_tries ∈ gW := gw (i := 952) (by decide +kernel) rfl
theorem ml_X11_398 : Cond.methodLink RX11 398 yX11_leftNow ∈ gW := gw (i := 964) (by decide +kernel) rfl
theorem ml_X11_401 : Cond.methodLink RX11 401 yX11_greatestRate ∈ gW := gw (i := 968) (by decide +kernel) rfl
theorem ml_X11_404 : Cond.methodLink RX11 404 Lib.Math.max.name ∈ gW := gw (i := 972) (by decide +kernel) rfl
theorem ml_X11_407 : Cond.methodLink RX11 407 yX2_keepImage ∈ gW := gw (i := 977) (by decide +kernel) rfl
theorem ml_X11_410 : Cond.methodLink RX11 410 yX2_bringBack ∈ gW := gw (i := 985) (by decide +kernel) rfl
theorem ml_X1_20 : Cond.methodLink RX1 20 yJ7_fill_53178 ∈ gW := gw (i := 814) (by decide +kernel) rfl
theorem ml_X1_26 : Cond.methodLink RX1 26 yX8_nodeOf ∈ gW := gw (i := 815) (by decide +kernel) rfl
theorem ml_X2_40 : Cond.methodLink RX2 40 arraycopyName ∈ gW := gw (i := 633) (by decide +kernel) rfl
theorem ml_X2_46 : Cond.methodLink RX2 46 Lib.Math.min.name ∈ gW := gw (i := 688) (by decide +kernel) rfl
theorem ml_X2_52 : Cond.methodLink RX2 52 yX2_shown ∈ gW := gw (i := 764) (by decide +kernel) rfl
theorem ml_X3_26 : Cond.methodLink RX3 26 yX8_look ∈ gW := gw (i := 638) (by decide +kernel) rfl
theorem ml_X3_36 : Cond.methodLink RX3 36 yX3_passYear ∈ gW := gw (i := 639) (by decide +kernel) rfl
theorem ml_X3_40 : Cond.methodLink RX3 40 yX3_giveNotice ∈ gW := gw (i := 656) (by decide +kernel) rfl
theorem ml_X3_43 : Cond.methodLink RX3 43 yX3_takeNoticeBack ∈ gW := gw (i := 661) (by decide +kernel) rfl
theorem ml_X3_47 : Cond.methodLink RX3 47 yX3_tellInstalment ∈ gW := gw (i := 665) (by decide +kernel) rfl
theorem ml_X3_51 : Cond.methodLink RX3 51 yX3_tellRate ∈ gW := gw (i := 669) (by decide +kernel) rfl
theorem ml_X3_55 : Cond.methodLink RX3 55 yX8_reckon ∈ gW := gw (i := 673) (by decide +kernel) rfl
theorem ml_X3_64 : Cond.methodLink RX3 64 yX3_here ∈ gW := gw (i := 650) (by decide +kernel) rfl
theorem ml_X3_67 : Cond.methodLink RX3 67 yX3_carryOut ∈ gW := gw (i := 674) (by decide +kernel) rfl
theorem ml_X3_70 : Cond.methodLink RX3 70 yX3_takeDeeds ∈ gW := gw (i := 678) (by decide +kernel) rfl
theorem ml_X3_74 : Cond.methodLink RX3 74 yX0_deedOf ∈ gW := gw (i := 682) (by decide +kernel) rfl
theorem ml_X3_78 : Cond.methodLink RX3 78 yX8_nodeOf ∈ gW := gw (i := 654) (by decide +kernel) rfl
theorem ml_X3_81 : Cond.methodLink RX3 81 yX8_interestOf ∈ gW := gw (i := 643) (by decide +kernel) rfl
theorem ml_X3_84 : Cond.methodLink RX3 84 yX8_dueAt ∈ gW := gw (i := 644) (by decide +kernel) rfl
theorem ml_X3_87 : Cond.methodLink RX3 87 yX3_settleNotice ∈ gW := gw (i := 645) (by decide +kernel) rfl
theorem ml_X3_90 : Cond.methodLink RX3 90 yX8_lastAllowed ∈ gW := gw (i := 660) (by decide +kernel) rfl
theorem ml_X3_99 : Cond.methodLink RX3 99 yX8_renewalAt ∈ gW := gw (i := 649) (by decide +kernel) rfl
theorem ml_X3_102 : Cond.methodLink RX3 102 yX8_couponAt ∈ gW := gw (i := 655) (by decide +kernel) rfl
theorem ml_X3_105 : Cond.methodLink RX3 105 yX0_setDeed ∈ gW := gw (i := 683) (by decide +kernel) rfl
theorem ml_X4_34 : Cond.methodLink RX4 34 yJ7_fill_53178 ∈ gW := gw (i := 399) (by decide +kernel) rfl
theorem ml_X4_43 : Cond.methodLink RX4 43 arraycopyName ∈ gW := gw (i := 404) (by decide +kernel) rfl
theorem ml_X4_49 : Cond.methodLink RX4 49 yX4_readSteps ∈ gW := gw (i := 407) (by decide +kernel) rfl
theorem ml_X4_53 : Cond.methodLink RX4 53 yX4_readClauses ∈ gW := gw (i := 441) (by decide +kernel) rfl
theorem ml_X4_59 : Cond.methodLink RX4 59 yX4_skipBlanks ∈ gW := gw (i := 411) (by decide +kernel) rfl
theorem ml_X4_66 : Cond.methodLink RX4 66 yX9_at ∈ gW := gw (i := 415) (by decide +kernel) rfl
theorem ml_X4_68 : Cond.methodLink RX4 68 yX4_placeOf ∈ gW := gw (i := 421) (by decide +kernel) rfl
theorem ml_X4_75 : Cond.methodLink RX4 75 yX4_readItems ∈ gW := gw (i := 449) (by decide +kernel) rfl
theorem ml_X4_84 : Cond.methodLink RX4 84 yX4_startPart ∈ gW := gw (i := 455) (by decide +kernel) rfl
theorem ml_X4_96 : Cond.methodLink RX4 96 yX4_readNumber ∈ gW := gw (i := 434) (by decide +kernel) rfl
theorem ml_X4_103 : Cond.methodLink RX4 103 yJ7_fill_fda19 ∈ gW := gw (i := 428) (by decide +kernel) rfl
theorem ml_X4_111 : Cond.methodLink RX4 111 yX4_readStepNumbers ∈ gW := gw (i := 424) (by decide +kernel) rfl
theorem ml_X4_116 : Cond.methodLink RX4 116 yX4_isDigit ∈ gW := gw (i := 438) (by decide +kernel) rfl
theorem ml_X6_22 : Cond.methodLink RX6 22 yX6_has ∈ gW := gw (i := 942) (by decide +kernel) rfl
theorem ml_X6_26 : Cond.methodLink RX6 26 yX6_sizeOf ∈ gW := gw (i := 947) (by decide +kernel) rfl
theorem ml_X6_30 : Cond.methodLink RX6 30 arraycopyName ∈ gW := gw (i := 477) (by decide +kernel) rfl
theorem ml_X8_53 : Cond.methodLink RX8 53 Lib.Math.min.name ∈ gW := gw (i := 490) (by decide +kernel) rfl
theorem ml_X8_59 : Cond.methodLink RX8 59 Lib.Math.max.name ∈ gW := gw (i := 493) (by decide +kernel) rfl
theorem ml_X8_66 : Cond.methodLink RX8 66 yX8_bounded ∈ gW := gw (i := 539) (by decide +kernel) rfl
theorem ml_X8_70 : Cond.methodLink RX8 70 yX8_takesOver ∈ gW := gw (i := 540) (by decide +kernel) rfl
theorem ml_X8_74 : Cond.methodLink RX8 74 yX8_reckonYears ∈ gW := gw (i := 544) (by decide +kernel) rfl
theorem ml_X8_82 : Cond.methodLink RX8 82 yX8_priceOf ∈ gW := gw (i := 548) (by decide +kernel) rfl
theorem ml_X8_85 : Cond.methodLink RX8 85 yX8_interestOf ∈ gW := gw (i := 585) (by decide +kernel) rfl
theorem ml_X8_88 : Cond.methodLink RX8 88 yX8_couponAt ∈ gW := gw (i := 572) (by decide +kernel) rfl
theorem ml_X8_100 : Cond.methodLink RX8 100 yX8_mayCall ∈ gW := gw (i := 590) (by decide +kernel) rfl
theorem ml_X8_104 : Cond.methodLink RX8 104 yX8_look ∈ gW := gw (i := 566) (by decide +kernel) rfl
theorem ml_X8_115 : Cond.methodLink RX8 115 yX8_nodeOf ∈ gW := gw (i := 567) (by decide +kernel) rfl
theorem ml_X8_118 : Cond.methodLink RX8 118 yX8_couponOfNode ∈ gW := gw (i := 568) (by decide +kernel) rfl
theorem ml_X8_121 : Cond.methodLink RX8 121 yX8_build ∈ gW := gw (i := 576) (by decide +kernel) rfl
theorem ml_X8_128 : Cond.methodLink RX8 128 yJ7_fill_fda19 ∈ gW := gw (i := 580) (by decide +kernel) rfl
theorem ml_X8_134 : Cond.methodLink RX8 134 yX8_dueAt ∈ gW := gw (i := 581) (by decide +kernel) rfl
theorem ml_X8_137 : Cond.methodLink RX8 137 yX8_lastAllowed ∈ gW := gw (i := 586) (by decide +kernel) rfl
theorem ml_X8_140 : Cond.methodLink RX8 140 yX8_reckonDeeds ∈ gW := gw (i := 594) (by decide +kernel) rfl
theorem ml_X8_144 : Cond.methodLink RX8 144 yX0_deedOf ∈ gW := gw (i := 606) (by decide +kernel) rfl
theorem ml_X8_148 : Cond.methodLink RX8 148 yX8_leastDeed ∈ gW := gw (i := 607) (by decide +kernel) rfl
theorem ml_X8_155 : Cond.methodLink RX8 155 yX8_costOf ∈ gW := gw (i := 611) (by decide +kernel) rfl
theorem ml_X8_158 : Cond.methodLink RX8 158 yX8_weigh ∈ gW := gw (i := 598) (by decide +kernel) rfl
theorem ml_X8_162 : Cond.methodLink RX8 162 yX8_renewalAt ∈ gW := gw (i := 602) (by decide +kernel) rfl
theorem ml_X10_62 : Cond.methodLink RX10 62 yJ7_fill_d0a16 ∈ gW := gw (i := 779) (by decide +kernel) rfl
theorem ml_X10_68 : Cond.methodLink RX10 68 yX8_reckon ∈ gW := gw (i := 782) (by decide +kernel) rfl
theorem ml_X10_72 : Cond.methodLink RX10 72 yX10_arrive ∈ gW := gw (i := 783) (by decide +kernel) rfl
theorem ml_X10_78 : Cond.methodLink RX10 78 yX10_finish ∈ gW := gw (i := 787) (by decide +kernel) rfl
theorem ml_X10_85 : Cond.methodLink RX10 85 yX8_nodeOf ∈ gW := gw (i := 793) (by decide +kernel) rfl
theorem ml_X10_89 : Cond.methodLink RX10 89 yX10_passYear ∈ gW := gw (i := 794) (by decide +kernel) rfl
theorem ml_X10_93 : Cond.methodLink RX10 93 yX10_settleNotice ∈ gW := gw (i := 799) (by decide +kernel) rfl
theorem ml_X10_100 : Cond.methodLink RX10 100 yX8_dueAt ∈ gW := gw (i := 798) (by decide +kernel) rfl
theorem ml_X10_106 : Cond.methodLink RX10 106 yX8_couponOfNode ∈ gW := gw (i := 803) (by decide +kernel) rfl
theorem ml_X10_113 : Cond.methodLink RX10 113 yX8_build ∈ gW := gw (i := 804) (by decide +kernel) rfl
theorem ml_X10_117 : Cond.methodLink RX10 117 yX8_renewalAt ∈ gW := gw (i := 805) (by decide +kernel) rfl
theorem ml_X10_129 : Cond.methodLink RX10 129 Lib.Math.min.name ∈ gW := gw (i := 791) (by decide +kernel) rfl
theorem ml_X10_134 : Cond.methodLink RX10 134 Lib.Math.max.name ∈ gW := gw (i := 792) (by decide +kernel) rfl
theorem ml_X12_89 : Cond.methodLink RX12 89 yX12_bytesOf ∈ gW := gw (i := 1217) (by decide +kernel) rfl
theorem ml_X12_93 : Cond.methodLink RX12 93 yX12_brings ∈ gW := gw (i := 1220) (by decide +kernel) rfl
theorem ml_X12_100 : Cond.methodLink RX12 100 yX12_here ∈ gW := gw (i := 1251) (by decide +kernel) rfl
theorem ml_X12_107 : Cond.methodLink RX12 107 yX12_look ∈ gW := gw (i := 1247) (by decide +kernel) rfl
theorem ml_X12_110 : Cond.methodLink RX12 110 yX12_isDigit ∈ gW := gw (i := 1323) (by decide +kernel) rfl
theorem ml_X12_114 : Cond.methodLink RX12 114 yX12_fails ∈ gW := gw (i := 1255) (by decide +kernel) rfl
theorem ml_X12_117 : Cond.methodLink RX12 117 yX12_digit ∈ gW := gw (i := 1319) (by decide +kernel) rfl
theorem ml_X12_120 : Cond.methodLink RX12 120 yJ0_length_8abf5 ∈ gW := gw (i := 1267) (by decide +kernel) rfl
theorem ml_X12_124 : Cond.methodLink RX12 124 yJ0_charAt_5068e ∈ gW := gw (i := 1277) (by decide +kernel) rfl
theorem ml_X12_131 : Cond.methodLink RX12 131 yX12_mostOf ∈ gW := gw (i := 1331) (by decide +kernel) rfl
theorem ml_X12_137 : Cond.methodLink RX12 137 yX12_spotOf ∈ gW := gw (i := 1264) (by decide +kernel) rfl
theorem ml_X12_141 : Cond.methodLink RX12 141 yX12_number ∈ gW := gw (i := 1315) (by decide +kernel) rfl
theorem ml_X12_144 : Cond.methodLink RX12 144 yX12_laysBounds ∈ gW := gw (i := 1327) (by decide +kernel) rfl
theorem ml_X12_148 : Cond.methodLink RX12 148 yX12_isIn ∈ gW := gw (i := 1233) (by decide +kernel) rfl
theorem ml_X12_160 : Cond.methodLink RX12 160 yX12_items ∈ gW := gw (i := 1260) (by decide +kernel) rfl
theorem ml_X12_168 : Cond.methodLink RX12 168 yX12_usual ∈ gW := gw (i := 1240) (by decide +kernel) rfl
theorem ml_X12_171 : Cond.methodLink RX12 171 yX12_clause ∈ gW := gw (i := 1243) (by decide +kernel) rfl
theorem ml_X12_180 : Cond.methodLink RX12 180 yX12_deedClause ∈ gW := gw (i := 1352) (by decide +kernel) rfl
theorem ml_X12_185 : Cond.methodLink RX12 185 yX12_numbersOf ∈ gW := gw (i := 1345) (by decide +kernel) rfl
theorem ml_X12_188 : Cond.methodLink RX12 188 yX12_readStep ∈ gW := gw (i := 1340) (by decide +kernel) rfl
theorem ml_X12_193 : Cond.methodLink RX12 193 yX12_readLoan ∈ gW := gw (i := 1236) (by decide +kernel) rfl
theorem ml_X12_196 : Cond.methodLink RX12 196 yX12_readScript ∈ gW := gw (i := 1336) (by decide +kernel) rfl
theorem ml_X12_199 : Cond.methodLink RX12 199 yX12_readPolicy ∈ gW := gw (i := 1348) (by decide +kernel) rfl
theorem ml_X12_206 : Cond.methodLink RX12 206 yX12_isNode ∈ gW := gw (i := 1366) (by decide +kernel) rfl
theorem ml_X12_210 : Cond.methodLink RX12 210 yX12_node ∈ gW := gw (i := 1370) (by decide +kernel) rfl
theorem ml_X12_223 : Cond.methodLink RX12 223 yX12_fault ∈ gW := gw (i := 1361) (by decide +kernel) rfl
theorem ml_X12_225 : Cond.methodLink RX12 225 yX12_tellsPolicy ∈ gW := gw (i := 1362) (by decide +kernel) rfl
theorem ml_X12_228 : Cond.methodLink RX12 228 yX12_begins ∈ gW := gw (i := 1373) (by decide +kernel) rfl
theorem ml_X12_231 : Cond.methodLink RX12 231 yX12_bound ∈ gW := gw (i := 1421) (by decide +kernel) rfl
theorem ml_X12_237 : Cond.methodLink RX12 237 yX12_rateOf ∈ gW := gw (i := 1417) (by decide +kernel) rfl
theorem ml_X12_241 : Cond.methodLink RX12 241 yX12_interest ∈ gW := gw (i := 1436) (by decide +kernel) rfl
theorem ml_X12_246 : Cond.methodLink RX12 246 yX12_cell ∈ gW := gw (i := 1488) (by decide +kernel) rfl
theorem ml_X12_250 : Cond.methodLink RX12 250 yX12_due ∈ gW := gw (i := 1432) (by decide +kernel) rfl
theorem ml_X12_253 : Cond.methodLink RX12 253 yX12_behind ∈ gW := gw (i := 1484) (by decide +kernel) rfl
theorem ml_X12_257 : Cond.methodLink RX12 257 yX12_next ∈ gW := gw (i := 1491) (by decide +kernel) rfl
theorem ml_X12_261 : Cond.methodLink RX12 261 yX12_paid ∈ gW := gw (i := 1496) (by decide +kernel) rfl
theorem ml_X12_265 : Cond.methodLink RX12 265 yX12_mayEnd ∈ gW := gw (i := 1408) (by decide +kernel) rfl
theorem ml_X12_269 : Cond.methodLink RX12 269 yX12_held ∈ gW := gw (i := 1480) (by decide +kernel) rfl
theorem ml_X12_273 : Cond.methodLink RX12 273 yX12_costBy ∈ gW := gw (i := 1476) (by decide +kernel) rfl
theorem ml_X12_277 : Cond.methodLink RX12 277 yX12_may ∈ gW := gw (i := 1404) (by decide +kernel) rfl
theorem ml_X12_281 : Cond.methodLink RX12 281 yX12_policyDeed ∈ gW := gw (i := 1468) (by decide +kernel) rfl
theorem ml_X12_285 : Cond.methodLink RX12 285 yX12_bestDeed ∈ gW := gw (i := 1472) (by decide +kernel) rfl
theorem ml_X12_289 : Cond.methodLink RX12 289 yX12_laysYears ∈ gW := gw (i := 1424) (by decide +kernel) rfl
theorem ml_X12_293 : Cond.methodLink RX12 293 yX12_newCoupon ∈ gW := gw (i := 1448) (by decide +kernel) rfl
theorem ml_X12_296 : Cond.methodLink RX12 296 yX12_laysBy ∈ gW := gw (i := 1464) (by decide +kernel) rfl
theorem ml_X12_300 : Cond.methodLink RX12 300 yX12_lays ∈ gW := gw (i := 1460) (by decide +kernel) rfl
theorem ml_X12_304 : Cond.methodLink RX12 304 yX12_isOver ∈ gW := gw (i := 1400) (by decide +kernel) rfl
theorem ml_X12_310 : Cond.methodLink RX12 310 yX12_canCome ∈ gW := gw (i := 1413) (by decide +kernel) rfl
theorem ml_X12_319 : Cond.methodLink RX12 319 yX12_pays ∈ gW := gw (i := 1440) (by decide +kernel) rfl
theorem ml_X12_323 : Cond.methodLink RX12 323 yX12_runsOut ∈ gW := gw (i := 1444) (by decide +kernel) rfl
theorem ml_X12_326 : Cond.methodLink RX12 326 yX12_givesNotice ∈ gW := gw (i := 1452) (by decide +kernel) rfl
theorem ml_X12_332 : Cond.methodLink RX12 332 yX12_stops ∈ gW := gw (i := 1396) (by decide +kernel) rfl
theorem ml_X12_336 : Cond.methodLink RX12 336 yX12_passes ∈ gW := gw (i := 1428) (by decide +kernel) rfl
theorem ml_X12_339 : Cond.methodLink RX12 339 yX12_bestHere ∈ gW := gw (i := 1456) (by decide +kernel) rfl
theorem ml_X12_343 : Cond.methodLink RX12 343 yX12_doesBest ∈ gW := gw (i := 1500) (by decide +kernel) rfl
theorem ml_X12_347 : Cond.methodLink RX12 347 yX12_adopts ∈ gW := gw (i := 1504) (by decide +kernel) rfl
theorem ml_X12_353 : Cond.methodLink RX12 353 yX12_copyRow ∈ gW := gw (i := 1389) (by decide +kernel) rfl
theorem ml_X12_357 : Cond.methodLink RX12 357 yX12_does ∈ gW := gw (i := 1392) (by decide +kernel) rfl
theorem ml_X12_360 : Cond.methodLink RX12 360 yX12_remember ∈ gW := gw (i := 1508) (by decide +kernel) rfl
theorem ml_X12_363 : Cond.methodLink RX12 363 yX12_notes ∈ gW := gw (i := 1512) (by decide +kernel) rfl
theorem ml_X12_366 : Cond.methodLink RX12 366 yX12_tries ∈ gW := gw (i := 1385) (by decide +kernel) rfl
theorem ml_X12_369 : Cond.methodLink RX12 369 yX12_act ∈ gW := gw (i := 1381) (by decide +kernel) rfl
theorem ml_X12_380 : Cond.methodLink RX12 380 yX12_draw ∈ gW := gw (i := 1561) (by decide +kernel) rfl
theorem ml_X12_385 : Cond.methodLink RX12 385 yX12_happens ∈ gW := gw (i := 1557) (by decide +kernel) rfl
theorem ml_X12_399 : Cond.methodLink RX12 399 yX12_laysNow ∈ gW := gw (i := 1609) (by decide +kernel) rfl
theorem ml_X12_405 : Cond.methodLink RX12 405 yX12_walkGives ∈ gW := gw (i := 1629) (by decide +kernel) rfl
theorem ml_X12_408 : Cond.methodLink RX12 408 yX12_walkActs ∈ gW := gw (i := 1625) (by decide +kernel) rfl
theorem ml_X12_411 : Cond.methodLink RX12 411 yX12_walks ∈ gW := gw (i := 1621) (by decide +kernel) rfl
theorem ml_X12_417 : Cond.methodLink RX12 417 yX12_isCalled ∈ gW := gw (i := 1638) (by decide +kernel) rfl
theorem ml_X12_420 : Cond.methodLink RX12 420 yX12_unlike ∈ gW := gw (i := 1642) (by decide +kernel) rfl
theorem ml_X12_433 : Cond.methodLink RX12 433 yX12_goesOn ∈ gW := gw (i := 1655) (by decide +kernel) rfl
theorem ml_X12_438 : Cond.methodLink RX12 438 yX12_laysMasses ∈ gW := gw (i := 1650) (by decide +kernel) rfl
theorem ml_X12_441 : Cond.methodLink RX12 441 yX12_laysPolicy ∈ gW := gw (i := 1672) (by decide +kernel) rfl
theorem ml_X12_444 : Cond.methodLink RX12 444 yX12_here_ ∈ gW := gw (i := 1676) (by decide +kernel) rfl
theorem ml_X12_451 : Cond.methodLink RX12 451 yX12_mendsAll ∈ gW := gw (i := 1734) (by decide +kernel) rfl
theorem ml_X12_454 : Cond.methodLink RX12 454 yX12_isScript ∈ gW := gw (i := 1742) (by decide +kernel) rfl
theorem ml_X12_457 : Cond.methodLink RX12 457 yX12_leftNow ∈ gW := gw (i := 1758) (by decide +kernel) rfl
theorem ml_X12_460 : Cond.methodLink RX12 460 yX12_highest ∈ gW := gw (i := 1762) (by decide +kernel) rfl
theorem ml_J7_13 : Cond.methodLink RJ7 13 yJ7_rangeCheck_23922 ∈ gW := gw (i := 431) (by decide +kernel) rfl
theorem mc_X9_countBytes : MeC mX9_countBytes := ⟨gw (i := 382) (by decide +kernel) (by decide +kernel), gw (i := 2) (by decide +kernel) rfl, ⟨by decide +kernel, by decide +kernel⟩, by decide, by decide +kernel⟩
theorem mv_X9_countBytes : MeV mX9_countBytes 1 7 := ⟨mc_X9_countBytes, by unfold MeN; decide +kernel, gw (i := 380) (by decide +kernel) rfl, gw (i := 381) (by decide +kernel) rfl, rfl⟩
theorem mc_X9_addBytes : MeC mX9_addBytes := ⟨gw (i := 386) (by decide +kernel) (by decide +kernel), gw (i := 2) (by decide +kernel) rfl, ⟨by decide +kernel, by decide +kernel⟩, by decide, by decide +kernel⟩
theorem mv_X9_addBytes : MeV mX9_addBytes 1 7 := ⟨mc_X9_addBytes, by unfold MeN; decide +kernel, gw (i := 384) (by decide +kernel) rfl, gw (i := 385) (by decide +kernel) rfl, rfl⟩
theorem mc_X4_examine : MeC mX4_examine := ⟨gw (i := 398) (by decide +kernel) (by decide +kernel), gw (i := 3) (by decide +kernel) rfl, ⟨by decide +kernel, by decide +kernel⟩, by decide, by decide +kernel⟩
theorem mv_X4_examine : MeV mX4_examine 1 3 := ⟨mc_X4_examine, by unfold MeN; decide +kernel, gw (i := 396) (by decide +kernel) rfl, gw (i := 397) (by decide +kernel) rfl, rfl⟩
theorem mc_X11_noLoan : MeC mX11_noLoan := ⟨gw (i := 472) (by decide +kernel) (by decide +kernel), gw (i := 1) (by decide +kernel) rfl, ⟨by decide +kernel, by decide +kernel⟩, by decide, by decide +kernel⟩
theorem mv_X11_noLoan : MeV mX11_noLoan 0 9 := ⟨mc_X11_noLoan, by unfold MeN; decide +kernel, gw (i := 471) (by decide +kernel) rfl, gs (i := 7) (by decide +kernel) rfl, rfl⟩
theorem mc_X6_take : MeC mX6_take := ⟨gw (i := 476) (by decide +kernel) (by decide +kernel), gw (i := 4) (by decide +kernel) rfl, ⟨by decide +kernel, by decide +kernel⟩, by decide, by decide +kernel⟩
theorem mv_X6_take : MeV mX6_take 2 4 := ⟨mc_X6_take, by unfold MeN; decide +kernel, gw (i := 474) (by decide +kernel) rfl, gw (i := 475) (by decide +kernel) rfl, rfl⟩
theorem mc_X11_takeLoan : MeC mX11_takeLoan := ⟨gw (i := 481) (by decide +kernel) (by decide +kernel), gw (i := 1) (by decide +kernel) rfl, ⟨by decide +kernel, by decide +kernel⟩, by decide, by decide +kernel⟩
theorem mv_X11_takeLoan : MeV mX11_takeLoan 0 9 := ⟨mc_X11_takeLoan, by unfold MeN; decide +kernel, gw (i := 480) (by decide +kernel) rfl, gs (i := 8) (by decide +kernel) rfl, rfl⟩
theorem mc_X11_takePolicy : MeC mX11_takePolicy := ⟨gw (i := 519) (by decide +kernel) (by decide +kernel), gw (i := 1) (by decide +kernel) rfl, ⟨by decide +kernel, by decide +kernel⟩, by decide, by decide +kernel⟩
theorem mv_X11_takePolicy : MeV mX11_takePolicy 0 9 := ⟨mc_X11_takePolicy, by unfold MeN; decide +kernel, gw (i := 518) (by decide +kernel) rfl, gs (i := 11) (by decide +kernel) rfl, rfl⟩
theorem mc_J7_fill_53178 : MeC mJ7_fill_53178 := ⟨gw (i := 401) (by decide +kernel) (by decide +kernel), gw (i := 12) (by decide +kernel) rfl, ⟨by decide +kernel, by decide +kernel⟩, by decide, by decide +kernel⟩
theorem ms_J7_fill_53178 : MeS mJ7_fill_53178 2 := ⟨mc_J7_fill_53178, by unfold MeN; decide +kernel, gw (i := 400) (by decide +kernel) rfl⟩
theorem mc_X8_nodeOf : MeC mX8_nodeOf := ⟨gw (i := 486) (by decide +kernel) (by decide +kernel), gw (i := 5) (by decide +kernel) rfl, ⟨by decide +kernel, by decide +kernel⟩, by decide, by decide +kernel⟩
theorem ms_X8_nodeOf : MeS mX8_nodeOf 2 := ⟨mc_X8_nodeOf, by unfold MeN; decide +kernel, gw (i := 485) (by decide +kernel) rfl⟩
theorem mc_X8_bounded : MeC mX8_bounded := ⟨gw (i := 489) (by decide +kernel) (by decide +kernel), gw (i := 5) (by decide +kernel) rfl, ⟨by decide +kernel, by decide +kernel⟩, by decide, by decide +kernel⟩
theorem ms_X8_bounded : MeS mX8_bounded 1 := ⟨mc_X8_bounded, by unfold MeN; decide +kernel, gw (i := 488) (by decide +kernel) rfl⟩
theorem mc_X4_part : MeC mX4_part := ⟨gw (i := 499) (by decide +kernel) (by decide +kernel), gw (i := 3) (by decide +kernel) rfl, ⟨by decide +kernel, by decide +kernel⟩, by decide, by decide +kernel⟩
theorem mv_X4_part : MeV mX4_part 2 3 := ⟨mc_X4_part, by unfold MeN; decide +kernel, gw (i := 497) (by decide +kernel) rfl, gw (i := 498) (by decide +kernel) rfl, rfl⟩
theorem mc_X11_takeClause : MeC mX11_takeClause := ⟨gw (i := 503) (by decide +kernel) (by decide +kernel), gw (i := 1) (by decide +kernel) rfl, ⟨by decide +kernel, by decide +kernel⟩, by decide, by decide +kernel⟩
theorem mv_X11_takeClause : MeV mX11_takeClause 4 9 := ⟨mc_X11_takeClause, by unfold MeN; decide +kernel, gw (i := 502) (by decide +kernel) rfl, gs (i := 9) (by decide +kernel) rfl, rfl⟩
theorem mc_X2_clear : MeC mX2_clear := ⟨gw (i := 511) (by decide +kernel) (by decide +kernel), gw (i := 8) (by decide +kernel) rfl, ⟨by decide +kernel, by decide +kernel⟩, by decide, by decide +kernel⟩
theorem mv_X2_clear : MeV mX2_clear 0 1 := ⟨mc_X2_clear, by unfold MeN; decide +kernel, gw (i := 509) (by decide +kernel) rfl, gw (i := 510) (by decide +kernel) rfl, rfl⟩
theorem mc_X8_forget : MeC mX8_forget := ⟨gw (i := 515) (by decide +kernel) (by decide +kernel), gw (i := 5) (by decide +kernel) rfl, ⟨by decide +kernel, by decide +kernel⟩, by decide, by decide +kernel⟩
theorem mv_X8_forget : MeV mX8_forget 0 6 := ⟨mc_X8_forget, by unfold MeN; decide +kernel, gw (i := 513) (by decide +kernel) rfl, gw (i := 514) (by decide +kernel) rfl, rfl⟩
theorem mc_X11_isNode : MeC mX11_isNode := ⟨gw (i := 507) (by decide +kernel) (by decide +kernel), gw (i := 1) (by decide +kernel) rfl, ⟨by decide +kernel, by decide +kernel⟩, by decide, by decide +kernel⟩
theorem mv_X11_isNode : MeV mX11_isNode 2 9 := ⟨mc_X11_isNode, by unfold MeN; decide +kernel, gw (i := 506) (by decide +kernel) rfl, gs (i := 10) (by decide +kernel) rfl, rfl⟩
theorem mc_J7_fill_fda19 : MeC mJ7_fill_fda19 := ⟨gw (i := 430) (by decide +kernel) (by decide +kernel), gw (i := 12) (by decide +kernel) rfl, ⟨by decide +kernel, by decide +kernel⟩, by decide, by decide +kernel⟩
theorem ms_J7_fill_fda19 : MeS mJ7_fill_fda19 4 := ⟨mc_J7_fill_fda19, by unfold MeN; decide +kernel, gw (i := 429) (by decide +kernel) rfl⟩
theorem mc_X0_setDeed : MeC mX0_setDeed := ⟨gw (i := 523) (by decide +kernel) (by decide +kernel), gw (i := 19) (by decide +kernel) rfl, ⟨by decide +kernel, by decide +kernel⟩, by decide, by decide +kernel⟩
theorem ms_X0_setDeed : MeS mX0_setDeed 4 := ⟨mc_X0_setDeed, by unfold MeN; decide +kernel, gw (i := 522) (by decide +kernel) rfl⟩
theorem mc_X0_deedOf : MeC mX0_deedOf := ⟨gw (i := 526) (by decide +kernel) (by decide +kernel), gw (i := 19) (by decide +kernel) rfl, ⟨by decide +kernel, by decide +kernel⟩, by decide, by decide +kernel⟩
theorem ms_X0_deedOf : MeS mX0_deedOf 3 := ⟨mc_X0_deedOf, by unfold MeN; decide +kernel, gw (i := 525) (by decide +kernel) rfl⟩
theorem mc_X8_look : MeC mX8_look := ⟨gw (i := 538) (by decide +kernel) (by decide +kernel), gw (i := 5) (by decide +kernel) rfl, ⟨by decide +kernel, by decide +kernel⟩, by decide, by decide +kernel⟩
theorem mv_X8_look : MeV mX8_look 2 6 := ⟨mc_X8_look, by unfold MeN; decide +kernel, gw (i := 536) (by decide +kernel) rfl, gw (i := 537) (by decide +kernel) rfl, rfl⟩
theorem mc_X8_interestOf : MeC mX8_interestOf := ⟨gw (i := 555) (by decide +kernel) (by decide +kernel), gw (i := 5) (by decide +kernel) rfl, ⟨by decide +kernel, by decide +kernel⟩, by decide, by decide +kernel⟩
theorem mv_X8_interestOf : MeV mX8_interestOf 2 6 := ⟨mc_X8_interestOf, by unfold MeN; decide +kernel, gw (i := 553) (by decide +kernel) rfl, gw (i := 554) (by decide +kernel) rfl, rfl⟩
theorem mc_X8_reckon : MeC mX8_reckon := ⟨gw (i := 565) (by decide +kernel) (by decide +kernel), gw (i := 5) (by decide +kernel) rfl, ⟨by decide +kernel, by decide +kernel⟩, by decide, by decide +kernel⟩
theorem mv_X8_reckon : MeV mX8_reckon 3 6 := ⟨mc_X8_reckon, by unfold MeN; decide +kernel, gw (i := 563) (by decide +kernel) rfl, gw (i := 564) (by decide +kernel) rfl, rfl⟩
theorem mc_X8_lastAllowed : MeC mX8_lastAllowed := ⟨gw (i := 589) (by decide +kernel) (by decide +kernel), gw (i := 5) (by decide +kernel) rfl, ⟨by decide +kernel, by decide +kernel⟩, by decide, by decide +kernel⟩
theorem mv_X8_lastAllowed : MeV mX8_lastAllowed 2 6 := ⟨mc_X8_lastAllowed, by unfold MeN; decide +kernel, gw (i := 587) (by decide +kernel) rfl, gw (i := 588) (by decide +kernel) rfl, rfl⟩
theorem mc_X8_costOf : MeC mX8_costOf := ⟨gw (i := 614) (by decide +kernel) (by decide +kernel), gw (i := 5) (by decide +kernel) rfl, ⟨by decide +kernel, by decide +kernel⟩, by decide, by decide +kernel⟩
theorem mv_X8_costOf : MeV mX8_costOf 3 6 := ⟨mc_X8_costOf, by unfold MeN; decide +kernel, gw (i := 612) (by decide +kernel) rfl, gw (i := 613) (by decide +kernel) rfl, rfl⟩
theorem mc_X11_act : MeC mX11_act := ⟨gw (i := 628) (by decide +kernel) (by decide +kernel), gw (i := 1) (by decide +kernel) rfl, ⟨by decide +kernel, by decide +kernel⟩, by decide, by decide +kernel⟩
theorem mv_X11_act : MeV mX11_act 5 9 := ⟨mc_X11_act, by unfold MeN; decide +kernel, gw (i := 627) (by decide +kernel) rfl, gs (i := 16) (by decide +kernel) rfl, rfl⟩
theorem mc_X2_save : MeC mX2_save := ⟨gw (i := 632) (by decide +kernel) (by decide +kernel), gw (i := 8) (by decide +kernel) rfl, ⟨by decide +kernel, by decide +kernel⟩, by decide, by decide +kernel⟩
theorem mv_X2_save : MeV mX2_save 1 1 := ⟨mc_X2_save, by unfold MeN; decide +kernel, gw (i := 630) (by decide +kernel) rfl, gw (i := 631) (by decide +kernel) rfl, rfl⟩
theorem mc_X3_attempt : MeC mX3_attempt := ⟨gw (i := 637) (by decide +kernel) (by decide +kernel), gw (i := 7) (by decide +kernel) rfl, ⟨by decide +kernel, by decide +kernel⟩, by decide, by decide +kernel⟩
theorem mv_X3_attempt : MeV mX3_attempt 4 2 := ⟨mc_X3_attempt, by unfold MeN; decide +kernel, gw (i := 635) (by decide +kernel) rfl, gw (i := 636) (by decide +kernel) rfl, rfl⟩
theorem mc_X2_enter : MeC mX2_enter := ⟨gw (i := 687) (by decide +kernel) (by decide +kernel), gw (i := 8) (by decide +kernel) rfl, ⟨by decide +kernel, by decide +kernel⟩, by decide, by decide +kernel⟩
theorem mv_X2_enter : MeV mX2_enter 3 1 := ⟨mc_X2_enter, by unfold MeN; decide +kernel, gw (i := 685) (by decide +kernel) rfl, gw (i := 686) (by decide +kernel) rfl, rfl⟩
theorem mc_X11_chooseByDraws : MeC mX11_chooseByDraws := ⟨gw (i := 732) (by decide +kernel) (by decide +kernel), gw (i := 1) (by decide +kernel) rfl, ⟨by decide +kernel, by decide +kernel⟩, by decide, by decide +kernel⟩
theorem mv_X11_chooseByDraws : MeV mX11_chooseByDraws 0 9 := ⟨mc_X11_chooseByDraws, by unfold MeN; decide +kernel, gw (i := 731) (by decide +kernel) rfl, gs (i := 26) (by decide +kernel) rfl, rfl⟩
theorem mc_X11_draw : MeC mX11_draw := ⟨gw (i := 736) (by decide +kernel) (by decide +kernel), gw (i := 1) (by decide +kernel) rfl, ⟨by decide +kernel, by decide +kernel⟩, by decide, by decide +kernel⟩
theorem mv_X11_draw : MeV mX11_draw 1 9 := ⟨mc_X11_draw, by unfold MeN; decide +kernel, gw (i := 735) (by decide +kernel) rfl, gs (i := 27) (by decide +kernel) rfl, rfl⟩
theorem mc_X2_takeBack : MeC mX2_takeBack := ⟨gw (i := 750) (by decide +kernel) (by decide +kernel), gw (i := 8) (by decide +kernel) rfl, ⟨by decide +kernel, by decide +kernel⟩, by decide, by decide +kernel⟩
theorem mv_X2_takeBack : MeV mX2_takeBack 1 1 := ⟨mc_X2_takeBack, by unfold MeN; decide +kernel, gw (i := 748) (by decide +kernel) rfl, gw (i := 749) (by decide +kernel) rfl, rfl⟩
theorem mc_X2_shown : MeC mX2_shown := ⟨gw (i := 758) (by decide +kernel) (by decide +kernel), gw (i := 8) (by decide +kernel) rfl, ⟨by decide +kernel, by decide +kernel⟩, by decide, by decide +kernel⟩
theorem mv_X2_shown : MeV mX2_shown 0 1 := ⟨mc_X2_shown, by unfold MeN; decide +kernel, gw (i := 756) (by decide +kernel) rfl, gw (i := 757) (by decide +kernel) rfl, rfl⟩
theorem mc_X2_entry : MeC mX2_entry := ⟨gw (i := 763) (by decide +kernel) (by decide +kernel), gw (i := 8) (by decide +kernel) rfl, ⟨by decide +kernel, by decide +kernel⟩, by decide, by decide +kernel⟩
theorem mv_X2_entry : MeV mX2_entry 2 1 := ⟨mc_X2_entry, by unfold MeN; decide +kernel, gw (i := 761) (by decide +kernel) rfl, gw (i := 762) (by decide +kernel) rfl, rfl⟩
theorem mc_X11_closed : MeC mX11_closed := ⟨gw (i := 773) (by decide +kernel) (by decide +kernel), gw (i := 1) (by decide +kernel) rfl, ⟨by decide +kernel, by decide +kernel⟩, by decide, by decide +kernel⟩
theorem mv_X11_closed : MeV mX11_closed 0 9 := ⟨mc_X11_closed, by unfold MeN; decide +kernel, gw (i := 772) (by decide +kernel) rfl, gs (i := 28) (by decide +kernel) rfl, rfl⟩
theorem mc_X10_go : MeC mX10_go := ⟨gw (i := 777) (by decide +kernel) (by decide +kernel), gw (i := 9) (by decide +kernel) rfl, ⟨by decide +kernel, by decide +kernel⟩, by decide, by decide +kernel⟩
theorem mv_X10_go : MeV mX10_go 3 8 := ⟨mc_X10_go, by unfold MeN; decide +kernel, gw (i := 775) (by decide +kernel) rfl, gw (i := 776) (by decide +kernel) rfl, rfl⟩
theorem mc_X1_pour : MeC mX1_pour := ⟨gw (i := 813) (by decide +kernel) (by decide +kernel), gw (i := 10) (by decide +kernel) rfl, ⟨by decide +kernel, by decide +kernel⟩, by decide, by decide +kernel⟩
theorem mv_X1_pour : MeV mX1_pour 2 0 := ⟨mc_X1_pour, by unfold MeN; decide +kernel, gw (i := 811) (by decide +kernel) rfl, gw (i := 812) (by decide +kernel) rfl, rfl⟩
theorem mc_X1_atTheEnd : MeC mX1_atTheEnd := ⟨gw (i := 825) (by decide +kernel) (by decide +kernel), gw (i := 10) (by decide +kernel) rfl, ⟨by decide +kernel, by decide +kernel⟩, by decide, by decide +kernel⟩
theorem mv_X1_atTheEnd : MeV mX1_atTheEnd 0 0 := ⟨mc_X1_atTheEnd, by unfold MeN; decide +kernel, gw (i := 823) (by decide +kernel) rfl, gw (i := 824) (by decide +kernel) rfl, rfl⟩
theorem mc_X1_stopped : MeC mX1_stopped := ⟨gw (i := 829) (by decide +kernel) (by decide +kernel), gw (i := 10) (by decide +kernel) rfl, ⟨by decide +kernel, by decide +kernel⟩, by decide, by decide +kernel⟩
theorem mv_X1_stopped : MeV mX1_stopped 3 0 := ⟨mc_X1_stopped, by unfold MeN; decide +kernel, gw (i := 827) (by decide +kernel) rfl, gw (i := 828) (by decide +kernel) rfl, rfl⟩
theorem mc_X11_here : MeC mX11_here := ⟨gw (i := 837) (by decide +kernel) (by decide +kernel), gw (i := 1) (by decide +kernel) rfl, ⟨by decide +kernel, by decide +kernel⟩, by decide, by decide +kernel⟩
theorem mv_X11_here : MeV mX11_here 0 9 := ⟨mc_X11_here, by unfold MeN; decide +kernel, gw (i := 836) (by decide +kernel) rfl, gs (i := 33) (by decide +kernel) rfl, rfl⟩
theorem mc_X11_costHere : MeC mX11_costHere := ⟨gw (i := 841) (by decide +kernel) (by decide +kernel), gw (i := 1) (by decide +kernel) rfl, ⟨by decide +kernel, by decide +kernel⟩, by decide, by decide +kernel⟩
theorem mv_X11_costHere : MeV mX11_costHere 3 9 := ⟨mc_X11_costHere, by unfold MeN; decide +kernel, gw (i := 840) (by decide +kernel) rfl, gs (i := 34) (by decide +kernel) rfl, rfl⟩
theorem mc_X8_build : MeC mX8_build := ⟨gw (i := 579) (by decide +kernel) (by decide +kernel), gw (i := 5) (by decide +kernel) rfl, ⟨by decide +kernel, by decide +kernel⟩, by decide, by decide +kernel⟩
theorem mv_X8_build : MeV mX8_build 4 6 := ⟨mc_X8_build, by unfold MeN; decide +kernel, gw (i := 577) (by decide +kernel) rfl, gw (i := 578) (by decide +kernel) rfl, rfl⟩
theorem mc_X8_mayCall : MeC mX8_mayCall := ⟨gw (i := 593) (by decide +kernel) (by decide +kernel), gw (i := 5) (by decide +kernel) rfl, ⟨by decide +kernel, by decide +kernel⟩, by decide, by decide +kernel⟩
theorem mv_X8_mayCall : MeV mX8_mayCall 1 6 := ⟨mc_X8_mayCall, by unfold MeN; decide +kernel, gw (i := 591) (by decide +kernel) rfl, gw (i := 592) (by decide +kernel) rfl, rfl⟩
theorem mc_X11_weighedHere : MeC mX11_weighedHere := ⟨gw (i := 856) (by decide +kernel) (by decide +kernel), gw (i := 1) (by decide +kernel) rfl, ⟨by decide +kernel, by decide +kernel⟩, by decide, by decide +kernel⟩
theorem mv_X11_weighedHere : MeV mX11_weighedHere 2 9 := ⟨mc_X11_weighedHere, by unfold MeN; decide +kernel, gw (i := 855) (by decide +kernel) rfl, gs (i := 35) (by decide +kernel) rfl, rfl⟩
theorem mc_X11_tillWithNotice : MeC mX11_tillWithNotice := ⟨gw (i := 862) (by decide +kernel) (by decide +kernel), gw (i := 1) (by decide +kernel) rfl, ⟨by decide +kernel, by decide +kernel⟩, by decide, by decide +kernel⟩
theorem mv_X11_tillWithNotice : MeV mX11_tillWithNotice 2 9 := ⟨mc_X11_tillWithNotice, by unfold MeN; decide +kernel, gw (i := 861) (by decide +kernel) rfl, gs (i := 36) (by decide +kernel) rfl, rfl⟩
theorem mc_X11_tillAtOnce : MeC mX11_tillAtOnce := ⟨gw (i := 866) (by decide +kernel) (by decide +kernel), gw (i := 1) (by decide +kernel) rfl, ⟨by decide +kernel, by decide +kernel⟩, by decide, by decide +kernel⟩
theorem mv_X11_tillAtOnce : MeV mX11_tillAtOnce 1 9 := ⟨mc_X11_tillAtOnce, by unfold MeN; decide +kernel, gw (i := 865) (by decide +kernel) rfl, gs (i := 37) (by decide +kernel) rfl, rfl⟩
theorem mc_X8_dueAt : MeC mX8_dueAt := ⟨gw (i := 584) (by decide +kernel) (by decide +kernel), gw (i := 5) (by decide +kernel) rfl, ⟨by decide +kernel, by decide +kernel⟩, by decide, by decide +kernel⟩
theorem mv_X8_dueAt : MeV mX8_dueAt 2 6 := ⟨mc_X8_dueAt, by unfold MeN; decide +kernel, gw (i := 582) (by decide +kernel) rfl, gw (i := 583) (by decide +kernel) rfl, rfl⟩
theorem mc_X8_weigh : MeC mX8_weigh := ⟨gw (i := 601) (by decide +kernel) (by decide +kernel), gw (i := 5) (by decide +kernel) rfl, ⟨by decide +kernel, by decide +kernel⟩, by decide, by decide +kernel⟩
theorem mv_X8_weigh : MeV mX8_weigh 4 6 := ⟨mc_X8_weigh, by unfold MeN; decide +kernel, gw (i := 599) (by decide +kernel) rfl, gw (i := 600) (by decide +kernel) rfl, rfl⟩
theorem mc_X11_leavesAt : MeC mX11_leavesAt := ⟨gw (i := 870) (by decide +kernel) (by decide +kernel), gw (i := 1) (by decide +kernel) rfl, ⟨by decide +kernel, by decide +kernel⟩, by decide, by decide +kernel⟩
theorem mv_X11_leavesAt : MeV mX11_leavesAt 3 9 := ⟨mc_X11_leavesAt, by unfold MeN; decide +kernel, gw (i := 869) (by decide +kernel) rfl, gs (i := 38) (by decide +kernel) rfl, rfl⟩
theorem mc_X8_couponAt : MeC mX8_couponAt := ⟨gw (i := 575) (by decide +kernel) (by decide +kernel), gw (i := 5) (by decide +kernel) rfl, ⟨by decide +kernel, by decide +kernel⟩, by decide, by decide +kernel⟩
theorem mv_X8_couponAt : MeV mX8_couponAt 1 6 := ⟨mc_X8_couponAt, by unfold MeN; decide +kernel, gw (i := 573) (by decide +kernel) rfl, gw (i := 574) (by decide +kernel) rfl, rfl⟩
theorem mc_X8_renewalAt : MeC mX8_renewalAt := ⟨gw (i := 605) (by decide +kernel) (by decide +kernel), gw (i := 5) (by decide +kernel) rfl, ⟨by decide +kernel, by decide +kernel⟩, by decide, by decide +kernel⟩
theorem mv_X8_renewalAt : MeV mX8_renewalAt 1 6 := ⟨mc_X8_renewalAt, by unfold MeN; decide +kernel, gw (i := 603) (by decide +kernel) rfl, gw (i := 604) (by decide +kernel) rfl, rfl⟩
theorem mc_X8_leastDeed : MeC mX8_leastDeed := ⟨gw (i := 610) (by decide +kernel) (by decide +kernel), gw (i := 5) (by decide +kernel) rfl, ⟨by decide +kernel, by decide +kernel⟩, by decide, by decide +kernel⟩
theorem mv_X8_leastDeed : MeV mX8_leastDeed 3 6 := ⟨mc_X8_leastDeed, by unfold MeN; decide +kernel, gw (i := 608) (by decide +kernel) rfl, gw (i := 609) (by decide +kernel) rfl, rfl⟩
theorem mc_X11_mendsTrial : MeC mX11_mendsTrial := ⟨gw (i := 921) (by decide +kernel) (by decide +kernel), gw (i := 1) (by decide +kernel) rfl, ⟨by decide +kernel, by decide +kernel⟩, by decide, by decide +kernel⟩
theorem mv_X11_mendsTrial : MeV mX11_mendsTrial 0 9 := ⟨mc_X11_mendsTrial, by unfold MeN; decide +kernel, gw (i := 920) (by decide +kernel) rfl, gs (i := 39) (by decide +kernel) rfl, rfl⟩
theorem mc_X6_has : MeC mX6_has := ⟨gw (i := 937) (by decide +kernel) (by decide +kernel), gw (i := 4) (by decide +kernel) rfl, ⟨by decide +kernel, by decide +kernel⟩, by decide, by decide +kernel⟩
theorem mv_X6_has : MeV mX6_has 1 4 := ⟨mc_X6_has, by unfold MeN; decide +kernel, gw (i := 935) (by decide +kernel) rfl, gw (i := 936) (by decide +kernel) rfl, rfl⟩
theorem mc_X6_sizeOf : MeC mX6_sizeOf := ⟨gw (i := 941) (by decide +kernel) (by decide +kernel), gw (i := 4) (by decide +kernel) rfl, ⟨by decide +kernel, by decide +kernel⟩, by decide, by decide +kernel⟩
theorem mv_X6_sizeOf : MeV mX6_sizeOf 1 4 := ⟨mc_X6_sizeOf, by unfold MeN; decide +kernel, gw (i := 939) (by decide +kernel) rfl, gw (i := 940) (by decide +kernel) rfl, rfl⟩
theorem mc_X6_number : MeC mX6_number := ⟨gw (i := 946) (by decide +kernel) (by decide +kernel), gw (i := 4) (by decide +kernel) rfl, ⟨by decide +kernel, by decide +kernel⟩, by decide, by decide +kernel⟩
theorem mv_X6_number : MeV mX6_number 3 4 := ⟨mc_X6_number, by unfold MeN; decide +kernel, gw (i := 944) (by decide +kernel) rfl, gw (i := 945) (by decide +kernel) rfl, rfl⟩
theorem mc_X11_tries : MeC mX11_tries := ⟨gw (i := 955) (by decide +kernel) (by decide +kernel), gw (i := 1) (by decide +kernel) rfl, ⟨by decide +kernel, by decide +kernel⟩, by decide, by decide +kernel⟩
theorem mv_X11_tries : MeV mX11_tries 2 9 := ⟨mc_X11_tries, by unfold MeN; decide +kernel, gw (i := 954) (by decide +kernel) rfl, gs (i := 40) (by decide +kernel) rfl, rfl⟩
theorem mc_X11_leftNow : MeC mX11_leftNow := ⟨gw (i := 967) (by decide +kernel) (by decide +kernel), gw (i := 1) (by decide +kernel) rfl, ⟨by decide +kernel, by decide +kernel⟩, by decide, by decide +kernel⟩
theorem mv_X11_leftNow : MeV mX11_leftNow 0 9 := ⟨mc_X11_leftNow, by unfold MeN; decide +kernel, gw (i := 966) (by decide +kernel) rfl, gs (i := 41) (by decide +kernel) rfl, rfl⟩
theorem mc_X11_greatestRate : MeC mX11_greatestRate := ⟨gw (i := 971) (by decide +kernel) (by decide +kernel), gw (i := 1) (by decide +kernel) rfl, ⟨by decide +kernel, by decide +kernel⟩, by decide, by decide +kernel⟩
theorem mv_X11_greatestRate : MeV mX11_greatestRate 0 9 := ⟨mc_X11_greatestRate, by unfold MeN; decide +kernel, gw (i := 970) (by decide +kernel) rfl, gs (i := 42) (by decide +kernel) rfl, rfl⟩
theorem mc_X2_keepImage : MeC mX2_keepImage := ⟨gw (i := 980) (by decide +kernel) (by decide +kernel), gw (i := 8) (by decide +kernel) rfl, ⟨by decide +kernel, by decide +kernel⟩, by decide, by decide +kernel⟩
theorem mv_X2_keepImage : MeV mX2_keepImage 1 1 := ⟨mc_X2_keepImage, by unfold MeN; decide +kernel, gw (i := 978) (by decide +kernel) rfl, gw (i := 979) (by decide +kernel) rfl, rfl⟩
theorem mc_X2_bringBack : MeC mX2_bringBack := ⟨gw (i := 988) (by decide +kernel) (by decide +kernel), gw (i := 8) (by decide +kernel) rfl, ⟨by decide +kernel, by decide +kernel⟩, by decide, by decide +kernel⟩
theorem mv_X2_bringBack : MeV mX2_bringBack 1 1 := ⟨mc_X2_bringBack, by unfold MeN; decide +kernel, gw (i := 986) (by decide +kernel) rfl, gw (i := 987) (by decide +kernel) rfl, rfl⟩
theorem mc_X12_bytesOf : MeC mX12_bytesOf := ⟨gw (i := 1219) (by decide +kernel) (by decide +kernel), gw (i := 11) (by decide +kernel) rfl, ⟨by decide +kernel, by decide +kernel⟩, by decide, by decide +kernel⟩
theorem ms_X12_bytesOf : MeS mX12_bytesOf 1 := ⟨mc_X12_bytesOf, by unfold MeN; decide +kernel, gw (i := 1218) (by decide +kernel) rfl⟩
theorem mc_X12_brings : MeC mX12_brings := ⟨gw (i := 1223) (by decide +kernel) (by decide +kernel), gw (i := 11) (by decide +kernel) rfl, ⟨by decide +kernel, by decide +kernel⟩, by decide, by decide +kernel⟩
theorem mv_X12_brings : MeV mX12_brings 1 10 := ⟨mc_X12_brings, by unfold MeN; decide +kernel, gw (i := 1222) (by decide +kernel) rfl, gs (i := 44) (by decide +kernel) rfl, rfl⟩
theorem mc_X12_here : MeC mX12_here := ⟨gw (i := 1254) (by decide +kernel) (by decide +kernel), gw (i := 11) (by decide +kernel) rfl, ⟨by decide +kernel, by decide +kernel⟩, by decide, by decide +kernel⟩
theorem mv_X12_here : MeV mX12_here 0 10 := ⟨mc_X12_here, by unfold MeN; decide +kernel, gw (i := 1253) (by decide +kernel) rfl, gs (i := 48) (by decide +kernel) rfl, rfl⟩
theorem mc_X12_look : MeC mX12_look := ⟨gw (i := 1250) (by decide +kernel) (by decide +kernel), gw (i := 11) (by decide +kernel) rfl, ⟨by decide +kernel, by decide +kernel⟩, by decide, by decide +kernel⟩
theorem mv_X12_look : MeV mX12_look 0 10 := ⟨mc_X12_look, by unfold MeN; decide +kernel, gw (i := 1249) (by decide +kernel) rfl, gs (i := 47) (by decide +kernel) rfl, rfl⟩
theorem mc_X12_isDigit : MeC mX12_isDigit := ⟨gw (i := 1326) (by decide +kernel) (by decide +kernel), gw (i := 11) (by decide +kernel) rfl, ⟨by decide +kernel, by decide +kernel⟩, by decide, by decide +kernel⟩
theorem mv_X12_isDigit : MeV mX12_isDigit 0 10 := ⟨mc_X12_isDigit, by unfold MeN; decide +kernel, gw (i := 1325) (by decide +kernel) rfl, gs (i := 53) (by decide +kernel) rfl, rfl⟩
theorem mc_X12_fails : MeC mX12_fails := ⟨gw (i := 1258) (by decide +kernel) (by decide +kernel), gw (i := 11) (by decide +kernel) rfl, ⟨by decide +kernel, by decide +kernel⟩, by decide, by decide +kernel⟩
theorem mv_X12_fails : MeV mX12_fails 0 10 := ⟨mc_X12_fails, by unfold MeN; decide +kernel, gw (i := 1257) (by decide +kernel) rfl, gs (i := 49) (by decide +kernel) rfl, rfl⟩
theorem mc_X12_digit : MeC mX12_digit := ⟨gw (i := 1322) (by decide +kernel) (by decide +kernel), gw (i := 11) (by decide +kernel) rfl, ⟨by decide +kernel, by decide +kernel⟩, by decide, by decide +kernel⟩
theorem mv_X12_digit : MeV mX12_digit 0 10 := ⟨mc_X12_digit, by unfold MeN; decide +kernel, gw (i := 1321) (by decide +kernel) rfl, gs (i := 52) (by decide +kernel) rfl, rfl⟩
theorem mc_J0_length_8abf5 : MeC mJ0_length_8abf5 := ⟨gw (i := 1270) (by decide +kernel) (by decide +kernel), gw (i := 14) (by decide +kernel) rfl, ⟨by decide +kernel, by decide +kernel⟩, by decide, by decide +kernel⟩
theorem mc_J0_charAt_5068e : MeC mJ0_charAt_5068e := ⟨gw (i := 1280) (by decide +kernel) (by decide +kernel), gw (i := 14) (by decide +kernel) rfl, ⟨by decide +kernel, by decide +kernel⟩, by decide, by decide +kernel⟩
theorem mc_X12_mostOf : MeC mX12_mostOf := ⟨gw (i := 1333) (by decide +kernel) (by decide +kernel), gw (i := 11) (by decide +kernel) rfl, ⟨by decide +kernel, by decide +kernel⟩, by decide, by decide +kernel⟩
theorem ms_X12_mostOf : MeS mX12_mostOf 1 := ⟨mc_X12_mostOf, by unfold MeN; decide +kernel, gw (i := 1332) (by decide +kernel) rfl⟩
theorem mc_X12_spotOf : MeC mX12_spotOf := ⟨gw (i := 1266) (by decide +kernel) (by decide +kernel), gw (i := 11) (by decide +kernel) rfl, ⟨by decide +kernel, by decide +kernel⟩, by decide, by decide +kernel⟩
theorem ms_X12_spotOf : MeS mX12_spotOf 2 := ⟨mc_X12_spotOf, by unfold MeN; decide +kernel, gw (i := 1265) (by decide +kernel) rfl⟩
theorem mc_X12_number : MeC mX12_number := ⟨gw (i := 1318) (by decide +kernel) (by decide +kernel), gw (i := 11) (by decide +kernel) rfl, ⟨by decide +kernel, by decide +kernel⟩, by decide, by decide +kernel⟩
theorem mv_X12_number : MeV mX12_number 0 10 := ⟨mc_X12_number, by unfold MeN; decide +kernel, gw (i := 1317) (by decide +kernel) rfl, gs (i := 51) (by decide +kernel) rfl, rfl⟩
theorem mc_X12_laysBounds : MeC mX12_laysBounds := ⟨gw (i := 1330) (by decide +kernel) (by decide +kernel), gw (i := 11) (by decide +kernel) rfl, ⟨by decide +kernel, by decide +kernel⟩, by decide, by decide +kernel⟩
theorem mv_X12_laysBounds : MeV mX12_laysBounds 2 10 := ⟨mc_X12_laysBounds, by unfold MeN; decide +kernel, gw (i := 1329) (by decide +kernel) rfl, gs (i := 54) (by decide +kernel) rfl, rfl⟩
theorem mc_X12_isIn : MeC mX12_isIn := ⟨gw (i := 1235) (by decide +kernel) (by decide +kernel), gw (i := 11) (by decide +kernel) rfl, ⟨by decide +kernel, by decide +kernel⟩, by decide, by decide +kernel⟩
theorem ms_X12_isIn : MeS mX12_isIn 3 := ⟨mc_X12_isIn, by unfold MeN; decide +kernel, gw (i := 1234) (by decide +kernel) rfl⟩
theorem mc_X12_items : MeC mX12_items := ⟨gw (i := 1263) (by decide +kernel) (by decide +kernel), gw (i := 11) (by decide +kernel) rfl, ⟨by decide +kernel, by decide +kernel⟩, by decide, by decide +kernel⟩
theorem mv_X12_items : MeV mX12_items 4 10 := ⟨mc_X12_items, by unfold MeN; decide +kernel, gw (i := 1262) (by decide +kernel) rfl, gs (i := 50) (by decide +kernel) rfl, rfl⟩
theorem mc_X12_usual : MeC mX12_usual := ⟨gw (i := 1242) (by decide +kernel) (by decide +kernel), gw (i := 11) (by decide +kernel) rfl, ⟨by decide +kernel, by decide +kernel⟩, by decide, by decide +kernel⟩
theorem ms_X12_usual : MeS mX12_usual 1 := ⟨mc_X12_usual, by unfold MeN; decide +kernel, gw (i := 1241) (by decide +kernel) rfl⟩
theorem mc_X12_clause : MeC mX12_clause := ⟨gw (i := 1246) (by decide +kernel) (by decide +kernel), gw (i := 11) (by decide +kernel) rfl, ⟨by decide +kernel, by decide +kernel⟩, by decide, by decide +kernel⟩
theorem mv_X12_clause : MeV mX12_clause 1 10 := ⟨mc_X12_clause, by unfold MeN; decide +kernel, gw (i := 1245) (by decide +kernel) rfl, gs (i := 46) (by decide +kernel) rfl, rfl⟩
theorem mc_X12_deedClause : MeC mX12_deedClause := ⟨gw (i := 1355) (by decide +kernel) (by decide +kernel), gw (i := 11) (by decide +kernel) rfl, ⟨by decide +kernel, by decide +kernel⟩, by decide, by decide +kernel⟩
theorem mv_X12_deedClause : MeV mX12_deedClause 0 10 := ⟨mc_X12_deedClause, by unfold MeN; decide +kernel, gw (i := 1354) (by decide +kernel) rfl, gs (i := 58) (by decide +kernel) rfl, rfl⟩
theorem mc_X12_numbersOf : MeC mX12_numbersOf := ⟨gw (i := 1347) (by decide +kernel) (by decide +kernel), gw (i := 11) (by decide +kernel) rfl, ⟨by decide +kernel, by decide +kernel⟩, by decide, by decide +kernel⟩
theorem ms_X12_numbersOf : MeS mX12_numbersOf 1 := ⟨mc_X12_numbersOf, by unfold MeN; decide +kernel, gw (i := 1346) (by decide +kernel) rfl⟩
theorem mc_X12_readStep : MeC mX12_readStep := ⟨gw (i := 1343) (by decide +kernel) (by decide +kernel), gw (i := 11) (by decide +kernel) rfl, ⟨by decide +kernel, by decide +kernel⟩, by decide, by decide +kernel⟩
theorem mv_X12_readStep : MeV mX12_readStep 1 10 := ⟨mc_X12_readStep, by unfold MeN; decide +kernel, gw (i := 1342) (by decide +kernel) rfl, gs (i := 56) (by decide +kernel) rfl, rfl⟩
theorem mc_X12_readLoan : MeC mX12_readLoan := ⟨gw (i := 1239) (by decide +kernel) (by decide +kernel), gw (i := 11) (by decide +kernel) rfl, ⟨by decide +kernel, by decide +kernel⟩, by decide, by decide +kernel⟩
theorem mv_X12_readLoan : MeV mX12_readLoan 0 10 := ⟨mc_X12_readLoan, by unfold MeN; decide +kernel, gw (i := 1238) (by decide +kernel) rfl, gs (i := 45) (by decide +kernel) rfl, rfl⟩
theorem mc_X12_readScript : MeC mX12_readScript := ⟨gw (i := 1339) (by decide +kernel) (by decide +kernel), gw (i := 11) (by decide +kernel) rfl, ⟨by decide +kernel, by decide +kernel⟩, by decide, by decide +kernel⟩
theorem mv_X12_readScript : MeV mX12_readScript 0 10 := ⟨mc_X12_readScript, by unfold MeN; decide +kernel, gw (i := 1338) (by decide +kernel) rfl, gs (i := 55) (by decide +kernel) rfl, rfl⟩
theorem mc_X12_readPolicy : MeC mX12_readPolicy := ⟨gw (i := 1351) (by decide +kernel) (by decide +kernel), gw (i := 11) (by decide +kernel) rfl, ⟨by decide +kernel, by decide +kernel⟩, by decide, by decide +kernel⟩
theorem mv_X12_readPolicy : MeV mX12_readPolicy 0 10 := ⟨mc_X12_readPolicy, by unfold MeN; decide +kernel, gw (i := 1350) (by decide +kernel) rfl, gs (i := 57) (by decide +kernel) rfl, rfl⟩
theorem mc_X12_isNode : MeC mX12_isNode := ⟨gw (i := 1369) (by decide +kernel) (by decide +kernel), gw (i := 11) (by decide +kernel) rfl, ⟨by decide +kernel, by decide +kernel⟩, by decide, by decide +kernel⟩
theorem mv_X12_isNode : MeV mX12_isNode 2 10 := ⟨mc_X12_isNode, by unfold MeN; decide +kernel, gw (i := 1368) (by decide +kernel) rfl, gs (i := 60) (by decide +kernel) rfl, rfl⟩
theorem mc_X12_node : MeC mX12_node := ⟨gw (i := 1372) (by decide +kernel) (by decide +kernel), gw (i := 11) (by decide +kernel) rfl, ⟨by decide +kernel, by decide +kernel⟩, by decide, by decide +kernel⟩
theorem ms_X12_node : MeS mX12_node 2 := ⟨mc_X12_node, by unfold MeN; decide +kernel, gw (i := 1371) (by decide +kernel) rfl⟩
theorem mc_X12_fault : MeC mX12_fault := ⟨gw (i := 1231) (by decide +kernel) (by decide +kernel), gw (i := 11) (by decide +kernel) rfl, ⟨by decide +kernel, by decide +kernel⟩, by decide, by decide +kernel⟩
theorem mv_X12_fault : MeV mX12_fault 1 10 := ⟨mc_X12_fault, by unfold MeN; decide +kernel, gw (i := 1229) (by decide +kernel) rfl, gw (i := 1230) (by decide +kernel) rfl, rfl⟩
theorem mc_X12_tellsPolicy : MeC mX12_tellsPolicy := ⟨gw (i := 1365) (by decide +kernel) (by decide +kernel), gw (i := 11) (by decide +kernel) rfl, ⟨by decide +kernel, by decide +kernel⟩, by decide, by decide +kernel⟩
theorem mv_X12_tellsPolicy : MeV mX12_tellsPolicy 0 10 := ⟨mc_X12_tellsPolicy, by unfold MeN; decide +kernel, gw (i := 1364) (by decide +kernel) rfl, gs (i := 59) (by decide +kernel) rfl, rfl⟩
theorem mc_X12_begins : MeC mX12_begins := ⟨gw (i := 1376) (by decide +kernel) (by decide +kernel), gw (i := 11) (by decide +kernel) rfl, ⟨by decide +kernel, by decide +kernel⟩, by decide, by decide +kernel⟩
theorem mv_X12_begins : MeV mX12_begins 0 10 := ⟨mc_X12_begins, by unfold MeN; decide +kernel, gw (i := 1375) (by decide +kernel) rfl, gs (i := 61) (by decide +kernel) rfl, rfl⟩
theorem mc_X12_bound : MeC mX12_bound := ⟨gw (i := 1423) (by decide +kernel) (by decide +kernel), gw (i := 11) (by decide +kernel) rfl, ⟨by decide +kernel, by decide +kernel⟩, by decide, by decide +kernel⟩
theorem ms_X12_bound : MeS mX12_bound 1 := ⟨mc_X12_bound, by unfold MeN; decide +kernel, gw (i := 1422) (by decide +kernel) rfl⟩
theorem mc_X12_rateOf : MeC mX12_rateOf := ⟨gw (i := 1420) (by decide +kernel) (by decide +kernel), gw (i := 11) (by decide +kernel) rfl, ⟨by decide +kernel, by decide +kernel⟩, by decide, by decide +kernel⟩
theorem mv_X12_rateOf : MeV mX12_rateOf 3 10 := ⟨mc_X12_rateOf, by unfold MeN; decide +kernel, gw (i := 1419) (by decide +kernel) rfl, gs (i := 69) (by decide +kernel) rfl, rfl⟩
theorem mc_X12_interest : MeC mX12_interest := ⟨gw (i := 1439) (by decide +kernel) (by decide +kernel), gw (i := 11) (by decide +kernel) rfl, ⟨by decide +kernel, by decide +kernel⟩, by decide, by decide +kernel⟩
theorem mv_X12_interest : MeV mX12_interest 2 10 := ⟨mc_X12_interest, by unfold MeN; decide +kernel, gw (i := 1438) (by decide +kernel) rfl, gs (i := 73) (by decide +kernel) rfl, rfl⟩
theorem mc_X12_cell : MeC mX12_cell := ⟨gw (i := 1490) (by decide +kernel) (by decide +kernel), gw (i := 11) (by decide +kernel) rfl, ⟨by decide +kernel, by decide +kernel⟩, by decide, by decide +kernel⟩
theorem ms_X12_cell : MeS mX12_cell 4 := ⟨mc_X12_cell, by unfold MeN; decide +kernel, gw (i := 1489) (by decide +kernel) rfl⟩
theorem mc_X12_due : MeC mX12_due := ⟨gw (i := 1435) (by decide +kernel) (by decide +kernel), gw (i := 11) (by decide +kernel) rfl, ⟨by decide +kernel, by decide +kernel⟩, by decide, by decide +kernel⟩
theorem mv_X12_due : MeV mX12_due 2 10 := ⟨mc_X12_due, by unfold MeN; decide +kernel, gw (i := 1434) (by decide +kernel) rfl, gs (i := 72) (by decide +kernel) rfl, rfl⟩
theorem mc_X12_behind : MeC mX12_behind := ⟨gw (i := 1487) (by decide +kernel) (by decide +kernel), gw (i := 11) (by decide +kernel) rfl, ⟨by decide +kernel, by decide +kernel⟩, by decide, by decide +kernel⟩
theorem mv_X12_behind : MeV mX12_behind 5 10 := ⟨mc_X12_behind, by unfold MeN; decide +kernel, gw (i := 1486) (by decide +kernel) rfl, gs (i := 85) (by decide +kernel) rfl, rfl⟩
theorem mc_X12_next : MeC mX12_next := ⟨gw (i := 1494) (by decide +kernel) (by decide +kernel), gw (i := 11) (by decide +kernel) rfl, ⟨by decide +kernel, by decide +kernel⟩, by decide, by decide +kernel⟩
theorem mv_X12_next : MeV mX12_next 5 10 := ⟨mc_X12_next, by unfold MeN; decide +kernel, gw (i := 1493) (by decide +kernel) rfl, gs (i := 86) (by decide +kernel) rfl, rfl⟩
theorem mc_X12_paid : MeC mX12_paid := ⟨gw (i := 1499) (by decide +kernel) (by decide +kernel), gw (i := 11) (by decide +kernel) rfl, ⟨by decide +kernel, by decide +kernel⟩, by decide, by decide +kernel⟩
theorem mv_X12_paid : MeV mX12_paid 8 10 := ⟨mc_X12_paid, by unfold MeN; decide +kernel, gw (i := 1498) (by decide +kernel) rfl, gs (i := 87) (by decide +kernel) rfl, rfl⟩
theorem mc_X12_mayEnd : MeC mX12_mayEnd := ⟨gw (i := 1411) (by decide +kernel) (by decide +kernel), gw (i := 11) (by decide +kernel) rfl, ⟨by decide +kernel, by decide +kernel⟩, by decide, by decide +kernel⟩
theorem mv_X12_mayEnd : MeV mX12_mayEnd 1 10 := ⟨mc_X12_mayEnd, by unfold MeN; decide +kernel, gw (i := 1410) (by decide +kernel) rfl, gs (i := 68) (by decide +kernel) rfl, rfl⟩
theorem mc_X12_held : MeC mX12_held := ⟨gw (i := 1483) (by decide +kernel) (by decide +kernel), gw (i := 11) (by decide +kernel) rfl, ⟨by decide +kernel, by decide +kernel⟩, by decide, by decide +kernel⟩
theorem mv_X12_held : MeV mX12_held 7 10 := ⟨mc_X12_held, by unfold MeN; decide +kernel, gw (i := 1482) (by decide +kernel) rfl, gs (i := 84) (by decide +kernel) rfl, rfl⟩
theorem mc_X12_costBy : MeC mX12_costBy := ⟨gw (i := 1479) (by decide +kernel) (by decide +kernel), gw (i := 11) (by decide +kernel) rfl, ⟨by decide +kernel, by decide +kernel⟩, by decide, by decide +kernel⟩
theorem mv_X12_costBy : MeV mX12_costBy 8 10 := ⟨mc_X12_costBy, by unfold MeN; decide +kernel, gw (i := 1478) (by decide +kernel) rfl, gs (i := 83) (by decide +kernel) rfl, rfl⟩
theorem mc_X12_may : MeC mX12_may := ⟨gw (i := 1407) (by decide +kernel) (by decide +kernel), gw (i := 11) (by decide +kernel) rfl, ⟨by decide +kernel, by decide +kernel⟩, by decide, by decide +kernel⟩
theorem mv_X12_may : MeV mX12_may 3 10 := ⟨mc_X12_may, by unfold MeN; decide +kernel, gw (i := 1406) (by decide +kernel) rfl, gs (i := 67) (by decide +kernel) rfl, rfl⟩
theorem mc_X12_policyDeed : MeC mX12_policyDeed := ⟨gw (i := 1471) (by decide +kernel) (by decide +kernel), gw (i := 11) (by decide +kernel) rfl, ⟨by decide +kernel, by decide +kernel⟩, by decide, by decide +kernel⟩
theorem mv_X12_policyDeed : MeV mX12_policyDeed 4 10 := ⟨mc_X12_policyDeed, by unfold MeN; decide +kernel, gw (i := 1470) (by decide +kernel) rfl, gs (i := 81) (by decide +kernel) rfl, rfl⟩
theorem mc_X12_bestDeed : MeC mX12_bestDeed := ⟨gw (i := 1475) (by decide +kernel) (by decide +kernel), gw (i := 11) (by decide +kernel) rfl, ⟨by decide +kernel, by decide +kernel⟩, by decide, by decide +kernel⟩
theorem mv_X12_bestDeed : MeV mX12_bestDeed 7 10 := ⟨mc_X12_bestDeed, by unfold MeN; decide +kernel, gw (i := 1474) (by decide +kernel) rfl, gs (i := 82) (by decide +kernel) rfl, rfl⟩
theorem mc_X12_laysYears : MeC mX12_laysYears := ⟨gw (i := 1427) (by decide +kernel) (by decide +kernel), gw (i := 11) (by decide +kernel) rfl, ⟨by decide +kernel, by decide +kernel⟩, by decide, by decide +kernel⟩
theorem mv_X12_laysYears : MeV mX12_laysYears 1 10 := ⟨mc_X12_laysYears, by unfold MeN; decide +kernel, gw (i := 1426) (by decide +kernel) rfl, gs (i := 70) (by decide +kernel) rfl, rfl⟩
theorem mc_X12_newCoupon : MeC mX12_newCoupon := ⟨gw (i := 1451) (by decide +kernel) (by decide +kernel), gw (i := 11) (by decide +kernel) rfl, ⟨by decide +kernel, by decide +kernel⟩, by decide, by decide +kernel⟩
theorem mv_X12_newCoupon : MeV mX12_newCoupon 3 10 := ⟨mc_X12_newCoupon, by unfold MeN; decide +kernel, gw (i := 1450) (by decide +kernel) rfl, gs (i := 76) (by decide +kernel) rfl, rfl⟩
theorem mc_X12_laysBy : MeC mX12_laysBy := ⟨gw (i := 1467) (by decide +kernel) (by decide +kernel), gw (i := 11) (by decide +kernel) rfl, ⟨by decide +kernel, by decide +kernel⟩, by decide, by decide +kernel⟩
theorem mv_X12_laysBy : MeV mX12_laysBy 7 10 := ⟨mc_X12_laysBy, by unfold MeN; decide +kernel, gw (i := 1466) (by decide +kernel) rfl, gs (i := 80) (by decide +kernel) rfl, rfl⟩
theorem mc_X12_lays : MeC mX12_lays := ⟨gw (i := 1463) (by decide +kernel) (by decide +kernel), gw (i := 11) (by decide +kernel) rfl, ⟨by decide +kernel, by decide +kernel⟩, by decide, by decide +kernel⟩
theorem mv_X12_lays : MeV mX12_lays 5 10 := ⟨mc_X12_lays, by unfold MeN; decide +kernel, gw (i := 1462) (by decide +kernel) rfl, gs (i := 79) (by decide +kernel) rfl, rfl⟩
theorem mc_X12_isOver : MeC mX12_isOver := ⟨gw (i := 1403) (by decide +kernel) (by decide +kernel), gw (i := 11) (by decide +kernel) rfl, ⟨by decide +kernel, by decide +kernel⟩, by decide, by decide +kernel⟩
theorem mv_X12_isOver : MeV mX12_isOver 1 10 := ⟨mc_X12_isOver, by unfold MeN; decide +kernel, gw (i := 1402) (by decide +kernel) rfl, gs (i := 66) (by decide +kernel) rfl, rfl⟩
theorem mc_X12_canCome : MeC mX12_canCome := ⟨gw (i := 1415) (by decide +kernel) (by decide +kernel), gw (i := 11) (by decide +kernel) rfl, ⟨by decide +kernel, by decide +kernel⟩, by decide, by decide +kernel⟩
theorem ms_X12_canCome : MeS mX12_canCome 3 := ⟨mc_X12_canCome, by unfold MeN; decide +kernel, gw (i := 1414) (by decide +kernel) rfl⟩
theorem mc_X12_pays : MeC mX12_pays := ⟨gw (i := 1443) (by decide +kernel) (by decide +kernel), gw (i := 11) (by decide +kernel) rfl, ⟨by decide +kernel, by decide +kernel⟩, by decide, by decide +kernel⟩
theorem mv_X12_pays : MeV mX12_pays 2 10 := ⟨mc_X12_pays, by unfold MeN; decide +kernel, gw (i := 1442) (by decide +kernel) rfl, gs (i := 74) (by decide +kernel) rfl, rfl⟩
theorem mc_X12_runsOut : MeC mX12_runsOut := ⟨gw (i := 1447) (by decide +kernel) (by decide +kernel), gw (i := 11) (by decide +kernel) rfl, ⟨by decide +kernel, by decide +kernel⟩, by decide, by decide +kernel⟩
theorem mv_X12_runsOut : MeV mX12_runsOut 1 10 := ⟨mc_X12_runsOut, by unfold MeN; decide +kernel, gw (i := 1446) (by decide +kernel) rfl, gs (i := 75) (by decide +kernel) rfl, rfl⟩
theorem mc_X12_givesNotice : MeC mX12_givesNotice := ⟨gw (i := 1455) (by decide +kernel) (by decide +kernel), gw (i := 11) (by decide +kernel) rfl, ⟨by decide +kernel, by decide +kernel⟩, by decide, by decide +kernel⟩
theorem mv_X12_givesNotice : MeV mX12_givesNotice 2 10 := ⟨mc_X12_givesNotice, by unfold MeN; decide +kernel, gw (i := 1454) (by decide +kernel) rfl, gs (i := 77) (by decide +kernel) rfl, rfl⟩
theorem mc_X12_stops : MeC mX12_stops := ⟨gw (i := 1399) (by decide +kernel) (by decide +kernel), gw (i := 11) (by decide +kernel) rfl, ⟨by decide +kernel, by decide +kernel⟩, by decide, by decide +kernel⟩
theorem mv_X12_stops : MeV mX12_stops 5 10 := ⟨mc_X12_stops, by unfold MeN; decide +kernel, gw (i := 1398) (by decide +kernel) rfl, gs (i := 65) (by decide +kernel) rfl, rfl⟩
theorem mc_X12_passes : MeC mX12_passes := ⟨gw (i := 1431) (by decide +kernel) (by decide +kernel), gw (i := 11) (by decide +kernel) rfl, ⟨by decide +kernel, by decide +kernel⟩, by decide, by decide +kernel⟩
theorem mv_X12_passes : MeV mX12_passes 2 10 := ⟨mc_X12_passes, by unfold MeN; decide +kernel, gw (i := 1430) (by decide +kernel) rfl, gs (i := 71) (by decide +kernel) rfl, rfl⟩
theorem mc_X12_bestHere : MeC mX12_bestHere := ⟨gw (i := 1459) (by decide +kernel) (by decide +kernel), gw (i := 11) (by decide +kernel) rfl, ⟨by decide +kernel, by decide +kernel⟩, by decide, by decide +kernel⟩
theorem mv_X12_bestHere : MeV mX12_bestHere 1 10 := ⟨mc_X12_bestHere, by unfold MeN; decide +kernel, gw (i := 1458) (by decide +kernel) rfl, gs (i := 78) (by decide +kernel) rfl, rfl⟩
theorem mc_X12_doesBest : MeC mX12_doesBest := ⟨gw (i := 1503) (by decide +kernel) (by decide +kernel), gw (i := 11) (by decide +kernel) rfl, ⟨by decide +kernel, by decide +kernel⟩, by decide, by decide +kernel⟩
theorem mv_X12_doesBest : MeV mX12_doesBest 2 10 := ⟨mc_X12_doesBest, by unfold MeN; decide +kernel, gw (i := 1502) (by decide +kernel) rfl, gs (i := 88) (by decide +kernel) rfl, rfl⟩
theorem mc_X12_adopts : MeC mX12_adopts := ⟨gw (i := 1507) (by decide +kernel) (by decide +kernel), gw (i := 11) (by decide +kernel) rfl, ⟨by decide +kernel, by decide +kernel⟩, by decide, by decide +kernel⟩
theorem mv_X12_adopts : MeV mX12_adopts 1 10 := ⟨mc_X12_adopts, by unfold MeN; decide +kernel, gw (i := 1506) (by decide +kernel) rfl, gs (i := 89) (by decide +kernel) rfl, rfl⟩
theorem mc_X12_copyRow : MeC mX12_copyRow := ⟨gw (i := 1391) (by decide +kernel) (by decide +kernel), gw (i := 11) (by decide +kernel) rfl, ⟨by decide +kernel, by decide +kernel⟩, by decide, by decide +kernel⟩
theorem ms_X12_copyRow : MeS mX12_copyRow 4 := ⟨mc_X12_copyRow, by unfold MeN; decide +kernel, gw (i := 1390) (by decide +kernel) rfl⟩
theorem mc_X12_does : MeC mX12_does := ⟨gw (i := 1395) (by decide +kernel) (by decide +kernel), gw (i := 11) (by decide +kernel) rfl, ⟨by decide +kernel, by decide +kernel⟩, by decide, by decide +kernel⟩
theorem mv_X12_does : MeV mX12_does 5 10 := ⟨mc_X12_does, by unfold MeN; decide +kernel, gw (i := 1394) (by decide +kernel) rfl, gs (i := 64) (by decide +kernel) rfl, rfl⟩
theorem mc_X12_remember : MeC mX12_remember := ⟨gw (i := 1511) (by decide +kernel) (by decide +kernel), gw (i := 11) (by decide +kernel) rfl, ⟨by decide +kernel, by decide +kernel⟩, by decide, by decide +kernel⟩
theorem mv_X12_remember : MeV mX12_remember 0 10 := ⟨mc_X12_remember, by unfold MeN; decide +kernel, gw (i := 1510) (by decide +kernel) rfl, gs (i := 90) (by decide +kernel) rfl, rfl⟩
theorem mc_X12_notes : MeC mX12_notes := ⟨gw (i := 1515) (by decide +kernel) (by decide +kernel), gw (i := 11) (by decide +kernel) rfl, ⟨by decide +kernel, by decide +kernel⟩, by decide, by decide +kernel⟩
theorem mv_X12_notes : MeV mX12_notes 1 10 := ⟨mc_X12_notes, by unfold MeN; decide +kernel, gw (i := 1514) (by decide +kernel) rfl, gs (i := 91) (by decide +kernel) rfl, rfl⟩
theorem mc_X12_tries : MeC mX12_tries := ⟨gw (i := 1388) (by decide +kernel) (by decide +kernel), gw (i := 11) (by decide +kernel) rfl, ⟨by decide +kernel, by decide +kernel⟩, by decide, by decide +kernel⟩
theorem mv_X12_tries : MeV mX12_tries 4 10 := ⟨mc_X12_tries, by unfold MeN; decide +kernel, gw (i := 1387) (by decide +kernel) rfl, gs (i := 63) (by decide +kernel) rfl, rfl⟩
theorem mc_X12_act : MeC mX12_act := ⟨gw (i := 1384) (by decide +kernel) (by decide +kernel), gw (i := 11) (by decide +kernel) rfl, ⟨by decide +kernel, by decide +kernel⟩, by decide, by decide +kernel⟩
theorem mv_X12_act : MeV mX12_act 4 10 := ⟨mc_X12_act, by unfold MeN; decide +kernel, gw (i := 1383) (by decide +kernel) rfl, gs (i := 62) (by decide +kernel) rfl, rfl⟩
theorem mc_X12_draw : MeC mX12_draw := ⟨gw (i := 1564) (by decide +kernel) (by decide +kernel), gw (i := 11) (by decide +kernel) rfl, ⟨by decide +kernel, by decide +kernel⟩, by decide, by decide +kernel⟩
theorem mv_X12_draw : MeV mX12_draw 1 10 := ⟨mc_X12_draw, by unfold MeN; decide +kernel, gw (i := 1563) (by decide +kernel) rfl, gs (i := 93) (by decide +kernel) rfl, rfl⟩
theorem mc_X12_happens : MeC mX12_happens := ⟨gw (i := 1560) (by decide +kernel) (by decide +kernel), gw (i := 11) (by decide +kernel) rfl, ⟨by decide +kernel, by decide +kernel⟩, by decide, by decide +kernel⟩
theorem mv_X12_happens : MeV mX12_happens 0 10 := ⟨mc_X12_happens, by unfold MeN; decide +kernel, gw (i := 1559) (by decide +kernel) rfl, gs (i := 92) (by decide +kernel) rfl, rfl⟩
theorem mc_X12_laysNow : MeC mX12_laysNow := ⟨gw (i := 1612) (by decide +kernel) (by decide +kernel), gw (i := 11) (by decide +kernel) rfl, ⟨by decide +kernel, by decide +kernel⟩, by decide, by decide +kernel⟩
theorem mv_X12_laysNow : MeV mX12_laysNow 0 10 := ⟨mc_X12_laysNow, by unfold MeN; decide +kernel, gw (i := 1611) (by decide +kernel) rfl, gs (i := 94) (by decide +kernel) rfl, rfl⟩
theorem mc_X12_walkGives : MeC mX12_walkGives := ⟨gw (i := 1632) (by decide +kernel) (by decide +kernel), gw (i := 11) (by decide +kernel) rfl, ⟨by decide +kernel, by decide +kernel⟩, by decide, by decide +kernel⟩
theorem mv_X12_walkGives : MeV mX12_walkGives 1 10 := ⟨mc_X12_walkGives, by unfold MeN; decide +kernel, gw (i := 1631) (by decide +kernel) rfl, gs (i := 97) (by decide +kernel) rfl, rfl⟩
theorem mc_X12_walkActs : MeC mX12_walkActs := ⟨gw (i := 1628) (by decide +kernel) (by decide +kernel), gw (i := 11) (by decide +kernel) rfl, ⟨by decide +kernel, by decide +kernel⟩, by decide, by decide +kernel⟩
theorem mv_X12_walkActs : MeV mX12_walkActs 0 10 := ⟨mc_X12_walkActs, by unfold MeN; decide +kernel, gw (i := 1627) (by decide +kernel) rfl, gs (i := 96) (by decide +kernel) rfl, rfl⟩
theorem mc_X12_walks : MeC mX12_walks := ⟨gw (i := 1624) (by decide +kernel) (by decide +kernel), gw (i := 11) (by decide +kernel) rfl, ⟨by decide +kernel, by decide +kernel⟩, by decide, by decide +kernel⟩
theorem mv_X12_walks : MeV mX12_walks 1 10 := ⟨mc_X12_walks, by unfold MeN; decide +kernel, gw (i := 1623) (by decide +kernel) rfl, gs (i := 95) (by decide +kernel) rfl, rfl⟩
theorem mc_X12_isCalled : MeC mX12_isCalled := ⟨gw (i := 1641) (by decide +kernel) (by decide +kernel), gw (i := 11) (by decide +kernel) rfl, ⟨by decide +kernel, by decide +kernel⟩, by decide, by decide +kernel⟩
theorem mv_X12_isCalled : MeV mX12_isCalled 0 10 := ⟨mc_X12_isCalled, by unfold MeN; decide +kernel, gw (i := 1640) (by decide +kernel) rfl, gs (i := 98) (by decide +kernel) rfl, rfl⟩
theorem mc_X12_unlike : MeC mX12_unlike := ⟨gw (i := 1645) (by decide +kernel) (by decide +kernel), gw (i := 11) (by decide +kernel) rfl, ⟨by decide +kernel, by decide +kernel⟩, by decide, by decide +kernel⟩
theorem mv_X12_unlike : MeV mX12_unlike 1 10 := ⟨mc_X12_unlike, by unfold MeN; decide +kernel, gw (i := 1644) (by decide +kernel) rfl, gs (i := 99) (by decide +kernel) rfl, rfl⟩
theorem mc_X12_goesOn : MeC mX12_goesOn := ⟨gw (i := 1658) (by decide +kernel) (by decide +kernel), gw (i := 11) (by decide +kernel) rfl, ⟨by decide +kernel, by decide +kernel⟩, by decide, by decide +kernel⟩
theorem mv_X12_goesOn : MeV mX12_goesOn 2 10 := ⟨mc_X12_goesOn, by unfold MeN; decide +kernel, gw (i := 1657) (by decide +kernel) rfl, gs (i := 101) (by decide +kernel) rfl, rfl⟩
theorem mc_X12_laysMasses : MeC mX12_laysMasses := ⟨gw (i := 1653) (by decide +kernel) (by decide +kernel), gw (i := 11) (by decide +kernel) rfl, ⟨by decide +kernel, by decide +kernel⟩, by decide, by decide +kernel⟩
theorem mv_X12_laysMasses : MeV mX12_laysMasses 0 10 := ⟨mc_X12_laysMasses, by unfold MeN; decide +kernel, gw (i := 1652) (by decide +kernel) rfl, gs (i := 100) (by decide +kernel) rfl, rfl⟩
theorem mc_X12_laysPolicy : MeC mX12_laysPolicy := ⟨gw (i := 1675) (by decide +kernel) (by decide +kernel), gw (i := 11) (by decide +kernel) rfl, ⟨by decide +kernel, by decide +kernel⟩, by decide, by decide +kernel⟩
theorem mv_X12_laysPolicy : MeV mX12_laysPolicy 1 10 := ⟨mc_X12_laysPolicy, by unfold MeN; decide +kernel, gw (i := 1674) (by decide +kernel) rfl, gs (i := 102) (by decide +kernel) rfl, rfl⟩
theorem mc_X12_here_ : MeC mX12_here_ := ⟨gw (i := 1679) (by decide +kernel) (by decide +kernel), gw (i := 11) (by decide +kernel) rfl, ⟨by decide +kernel, by decide +kernel⟩, by decide, by decide +kernel⟩
theorem mv_X12_here_ : MeV mX12_here_ 1 10 := ⟨mc_X12_here_, by unfold MeN; decide +kernel, gw (i := 1678) (by decide +kernel) rfl, gs (i := 103) (by decide +kernel) rfl, rfl⟩
theorem mc_X12_mendsAll : MeC mX12_mendsAll := ⟨gw (i := 1737) (by decide +kernel) (by decide +kernel), gw (i := 11) (by decide +kernel) rfl, ⟨by decide +kernel, by decide +kernel⟩, by decide, by decide +kernel⟩
theorem mv_X12_mendsAll : MeV mX12_mendsAll 0 10 := ⟨mc_X12_mendsAll, by unfold MeN; decide +kernel, gw (i := 1736) (by decide +kernel) rfl, gs (i := 104) (by decide +kernel) rfl, rfl⟩
theorem mc_X12_isScript : MeC mX12_isScript := ⟨gw (i := 1745) (by decide +kernel) (by decide +kernel), gw (i := 11) (by decide +kernel) rfl, ⟨by decide +kernel, by decide +kernel⟩, by decide, by decide +kernel⟩
theorem mv_X12_isScript : MeV mX12_isScript 1 10 := ⟨mc_X12_isScript, by unfold MeN; decide +kernel, gw (i := 1744) (by decide +kernel) rfl, gs (i := 105) (by decide +kernel) rfl, rfl⟩
theorem mc_X12_leftNow : MeC mX12_leftNow := ⟨gw (i := 1761) (by decide +kernel) (by decide +kernel), gw (i := 11) (by decide +kernel) rfl, ⟨by decide +kernel, by decide +kernel⟩, by decide, by decide +kernel⟩
theorem mv_X12_leftNow : MeV mX12_leftNow 0 10 := ⟨mc_X12_leftNow, by unfold MeN; decide +kernel, gw (i := 1760) (by decide +kernel) rfl, gs (i := 106) (by decide +kernel) rfl, rfl⟩
theorem mc_X12_highest : MeC mX12_highest := ⟨gw (i := 1765) (by decide +kernel) (by decide +kernel), gw (i := 11) (by decide +kernel) rfl, ⟨by decide +kernel, by decide +kernel⟩, by decide, by decide +kernel⟩
theorem mv_X12_highest : MeV mX12_highest 0 10 := ⟨mc_X12_highest, by unfold MeN; decide +kernel, gw (i := 1764) (by decide +kernel) rfl, gs (i := 107) (by decide +kernel) rfl, rfl⟩
theorem mc_X3_passYear : MeC mX3_passYear := ⟨gw (i := 642) (by decide +kernel) (by decide +kernel), gw (i := 7) (by decide +kernel) rfl, ⟨by decide +kernel, by decide +kernel⟩, by decide, by decide +kernel⟩
theorem mv_X3_passYear : MeV mX3_passYear 1 2 := ⟨mc_X3_passYear, by unfold MeN; decide +kernel, gw (i := 641) (by decide +kernel) rfl, gs (i := 17) (by decide +kernel) rfl, rfl⟩
theorem mc_X3_giveNotice : MeC mX3_giveNotice := ⟨gw (i := 659) (by decide +kernel) (by decide +kernel), gw (i := 7) (by decide +kernel) rfl, ⟨by decide +kernel, by decide +kernel⟩, by decide, by decide +kernel⟩
theorem mv_X3_giveNotice : MeV mX3_giveNotice 1 2 := ⟨mc_X3_giveNotice, by unfold MeN; decide +kernel, gw (i := 658) (by decide +kernel) rfl, gs (i := 20) (by decide +kernel) rfl, rfl⟩
theorem mc_X3_takeNoticeBack : MeC mX3_takeNoticeBack := ⟨gw (i := 664) (by decide +kernel) (by decide +kernel), gw (i := 7) (by decide +kernel) rfl, ⟨by decide +kernel, by decide +kernel⟩, by decide, by decide +kernel⟩
theorem mv_X3_takeNoticeBack : MeV mX3_takeNoticeBack 0 2 := ⟨mc_X3_takeNoticeBack, by unfold MeN; decide +kernel, gw (i := 663) (by decide +kernel) rfl, gs (i := 21) (by decide +kernel) rfl, rfl⟩
theorem mc_X3_tellInstalment : MeC mX3_tellInstalment := ⟨gw (i := 668) (by decide +kernel) (by decide +kernel), gw (i := 7) (by decide +kernel) rfl, ⟨by decide +kernel, by decide +kernel⟩, by decide, by decide +kernel⟩
theorem mv_X3_tellInstalment : MeV mX3_tellInstalment 2 2 := ⟨mc_X3_tellInstalment, by unfold MeN; decide +kernel, gw (i := 667) (by decide +kernel) rfl, gs (i := 22) (by decide +kernel) rfl, rfl⟩
theorem mc_X3_tellRate : MeC mX3_tellRate := ⟨gw (i := 672) (by decide +kernel) (by decide +kernel), gw (i := 7) (by decide +kernel) rfl, ⟨by decide +kernel, by decide +kernel⟩, by decide, by decide +kernel⟩
theorem mv_X3_tellRate : MeV mX3_tellRate 3 2 := ⟨mc_X3_tellRate, by unfold MeN; decide +kernel, gw (i := 671) (by decide +kernel) rfl, gs (i := 23) (by decide +kernel) rfl, rfl⟩
theorem mc_X3_here : MeC mX3_here := ⟨gw (i := 653) (by decide +kernel) (by decide +kernel), gw (i := 7) (by decide +kernel) rfl, ⟨by decide +kernel, by decide +kernel⟩, by decide, by decide +kernel⟩
theorem mv_X3_here : MeV mX3_here 0 2 := ⟨mc_X3_here, by unfold MeN; decide +kernel, gw (i := 652) (by decide +kernel) rfl, gs (i := 19) (by decide +kernel) rfl, rfl⟩
theorem mc_X3_carryOut : MeC mX3_carryOut := ⟨gw (i := 677) (by decide +kernel) (by decide +kernel), gw (i := 7) (by decide +kernel) rfl, ⟨by decide +kernel, by decide +kernel⟩, by decide, by decide +kernel⟩
theorem mv_X3_carryOut : MeV mX3_carryOut 1 2 := ⟨mc_X3_carryOut, by unfold MeN; decide +kernel, gw (i := 676) (by decide +kernel) rfl, gs (i := 24) (by decide +kernel) rfl, rfl⟩
theorem mc_X3_takeDeeds : MeC mX3_takeDeeds := ⟨gw (i := 681) (by decide +kernel) (by decide +kernel), gw (i := 7) (by decide +kernel) rfl, ⟨by decide +kernel, by decide +kernel⟩, by decide, by decide +kernel⟩
theorem mv_X3_takeDeeds : MeV mX3_takeDeeds 1 2 := ⟨mc_X3_takeDeeds, by unfold MeN; decide +kernel, gw (i := 680) (by decide +kernel) rfl, gs (i := 25) (by decide +kernel) rfl, rfl⟩
theorem mc_X3_settleNotice : MeC mX3_settleNotice := ⟨gw (i := 648) (by decide +kernel) (by decide +kernel), gw (i := 7) (by decide +kernel) rfl, ⟨by decide +kernel, by decide +kernel⟩, by decide, by decide +kernel⟩
theorem mv_X3_settleNotice : MeV mX3_settleNotice 1 2 := ⟨mc_X3_settleNotice, by unfold MeN; decide +kernel, gw (i := 647) (by decide +kernel) rfl, gs (i := 18) (by decide +kernel) rfl, rfl⟩
theorem mc_X4_readSteps : MeC mX4_readSteps := ⟨gw (i := 410) (by decide +kernel) (by decide +kernel), gw (i := 3) (by decide +kernel) rfl, ⟨by decide +kernel, by decide +kernel⟩, by decide, by decide +kernel⟩
theorem mv_X4_readSteps : MeV mX4_readSteps 0 3 := ⟨mc_X4_readSteps, by unfold MeN; decide +kernel, gw (i := 409) (by decide +kernel) rfl, gs (i := 0) (by decide +kernel) rfl, rfl⟩
theorem mc_X4_readClauses : MeC mX4_readClauses := ⟨gw (i := 444) (by decide +kernel) (by decide +kernel), gw (i := 3) (by decide +kernel) rfl, ⟨by decide +kernel, by decide +kernel⟩, by decide, by decide +kernel⟩
theorem mv_X4_readClauses : MeV mX4_readClauses 1 3 := ⟨mc_X4_readClauses, by unfold MeN; decide +kernel, gw (i := 443) (by decide +kernel) rfl, gs (i := 4) (by decide +kernel) rfl, rfl⟩
theorem mc_X4_skipBlanks : MeC mX4_skipBlanks := ⟨gw (i := 414) (by decide +kernel) (by decide +kernel), gw (i := 3) (by decide +kernel) rfl, ⟨by decide +kernel, by decide +kernel⟩, by decide, by decide +kernel⟩
theorem mv_X4_skipBlanks : MeV mX4_skipBlanks 0 3 := ⟨mc_X4_skipBlanks, by unfold MeN; decide +kernel, gw (i := 413) (by decide +kernel) rfl, gs (i := 1) (by decide +kernel) rfl, rfl⟩
theorem mc_X9_at : MeC mX9_at := ⟨gw (i := 418) (by decide +kernel) (by decide +kernel), gw (i := 2) (by decide +kernel) rfl, ⟨by decide +kernel, by decide +kernel⟩, by decide, by decide +kernel⟩
theorem mv_X9_at : MeV mX9_at 1 7 := ⟨mc_X9_at, by unfold MeN; decide +kernel, gw (i := 416) (by decide +kernel) rfl, gw (i := 417) (by decide +kernel) rfl, rfl⟩
theorem mc_X4_placeOf : MeC mX4_placeOf := ⟨gw (i := 423) (by decide +kernel) (by decide +kernel), gw (i := 3) (by decide +kernel) rfl, ⟨by decide +kernel, by decide +kernel⟩, by decide, by decide +kernel⟩
theorem ms_X4_placeOf : MeS mX4_placeOf 4 := ⟨mc_X4_placeOf, by unfold MeN; decide +kernel, gw (i := 422) (by decide +kernel) rfl⟩
theorem mc_X4_readItems : MeC mX4_readItems := ⟨gw (i := 452) (by decide +kernel) (by decide +kernel), gw (i := 3) (by decide +kernel) rfl, ⟨by decide +kernel, by decide +kernel⟩, by decide, by decide +kernel⟩
theorem mv_X4_readItems : MeV mX4_readItems 1 3 := ⟨mc_X4_readItems, by unfold MeN; decide +kernel, gw (i := 451) (by decide +kernel) rfl, gs (i := 5) (by decide +kernel) rfl, rfl⟩
theorem mc_X4_startPart : MeC mX4_startPart := ⟨gw (i := 458) (by decide +kernel) (by decide +kernel), gw (i := 3) (by decide +kernel) rfl, ⟨by decide +kernel, by decide +kernel⟩, by decide, by decide +kernel⟩
theorem mv_X4_startPart : MeV mX4_startPart 1 3 := ⟨mc_X4_startPart, by unfold MeN; decide +kernel, gw (i := 457) (by decide +kernel) rfl, gs (i := 6) (by decide +kernel) rfl, rfl⟩
theorem mc_X4_readNumber : MeC mX4_readNumber := ⟨gw (i := 437) (by decide +kernel) (by decide +kernel), gw (i := 3) (by decide +kernel) rfl, ⟨by decide +kernel, by decide +kernel⟩, by decide, by decide +kernel⟩
theorem mv_X4_readNumber : MeV mX4_readNumber 2 3 := ⟨mc_X4_readNumber, by unfold MeN; decide +kernel, gw (i := 436) (by decide +kernel) rfl, gs (i := 3) (by decide +kernel) rfl, rfl⟩
theorem mc_X4_readStepNumbers : MeC mX4_readStepNumbers := ⟨gw (i := 427) (by decide +kernel) (by decide +kernel), gw (i := 3) (by decide +kernel) rfl, ⟨by decide +kernel, by decide +kernel⟩, by decide, by decide +kernel⟩
theorem mv_X4_readStepNumbers : MeV mX4_readStepNumbers 1 3 := ⟨mc_X4_readStepNumbers, by unfold MeN; decide +kernel, gw (i := 426) (by decide +kernel) rfl, gs (i := 2) (by decide +kernel) rfl, rfl⟩
theorem mc_X4_isDigit : MeC mX4_isDigit := ⟨gw (i := 440) (by decide +kernel) (by decide +kernel), gw (i := 3) (by decide +kernel) rfl, ⟨by decide +kernel, by decide +kernel⟩, by decide, by decide +kernel⟩
theorem ms_X4_isDigit : MeS mX4_isDigit 1 := ⟨mc_X4_isDigit, by unfold MeN; decide +kernel, gw (i := 439) (by decide +kernel) rfl⟩
theorem mc_X8_takesOver : MeC mX8_takesOver := ⟨gw (i := 543) (by decide +kernel) (by decide +kernel), gw (i := 5) (by decide +kernel) rfl, ⟨by decide +kernel, by decide +kernel⟩, by decide, by decide +kernel⟩
theorem mv_X8_takesOver : MeV mX8_takesOver 3 6 := ⟨mc_X8_takesOver, by unfold MeN; decide +kernel, gw (i := 542) (by decide +kernel) rfl, gs (i := 12) (by decide +kernel) rfl, rfl⟩
theorem mc_X8_reckonYears : MeC mX8_reckonYears := ⟨gw (i := 547) (by decide +kernel) (by decide +kernel), gw (i := 5) (by decide +kernel) rfl, ⟨by decide +kernel, by decide +kernel⟩, by decide, by decide +kernel⟩
theorem mv_X8_reckonYears : MeV mX8_reckonYears 0 6 := ⟨mc_X8_reckonYears, by unfold MeN; decide +kernel, gw (i := 546) (by decide +kernel) rfl, gs (i := 13) (by decide +kernel) rfl, rfl⟩
theorem mc_X8_priceOf : MeC mX8_priceOf := ⟨gw (i := 551) (by decide +kernel) (by decide +kernel), gw (i := 5) (by decide +kernel) rfl, ⟨by decide +kernel, by decide +kernel⟩, by decide, by decide +kernel⟩
theorem mv_X8_priceOf : MeV mX8_priceOf 1 6 := ⟨mc_X8_priceOf, by unfold MeN; decide +kernel, gw (i := 550) (by decide +kernel) rfl, gs (i := 14) (by decide +kernel) rfl, rfl⟩
theorem mc_X8_couponOfNode : MeC mX8_couponOfNode := ⟨gw (i := 571) (by decide +kernel) (by decide +kernel), gw (i := 5) (by decide +kernel) rfl, ⟨by decide +kernel, by decide +kernel⟩, by decide, by decide +kernel⟩
theorem mv_X8_couponOfNode : MeV mX8_couponOfNode 1 6 := ⟨mc_X8_couponOfNode, by unfold MeN; decide +kernel, gw (i := 569) (by decide +kernel) rfl, gw (i := 570) (by decide +kernel) rfl, rfl⟩
theorem mc_X8_reckonDeeds : MeC mX8_reckonDeeds := ⟨gw (i := 597) (by decide +kernel) (by decide +kernel), gw (i := 5) (by decide +kernel) rfl, ⟨by decide +kernel, by decide +kernel⟩, by decide, by decide +kernel⟩
theorem mv_X8_reckonDeeds : MeV mX8_reckonDeeds 5 6 := ⟨mc_X8_reckonDeeds, by unfold MeN; decide +kernel, gw (i := 596) (by decide +kernel) rfl, gs (i := 15) (by decide +kernel) rfl, rfl⟩
theorem mc_J7_fill_d0a16 : MeC mJ7_fill_d0a16 := ⟨gw (i := 781) (by decide +kernel) (by decide +kernel), gw (i := 12) (by decide +kernel) rfl, ⟨by decide +kernel, by decide +kernel⟩, by decide, by decide +kernel⟩
theorem ms_J7_fill_d0a16 : MeS mJ7_fill_d0a16 2 := ⟨mc_J7_fill_d0a16, by unfold MeN; decide +kernel, gw (i := 780) (by decide +kernel) rfl⟩
theorem mc_X10_arrive : MeC mX10_arrive := ⟨gw (i := 786) (by decide +kernel) (by decide +kernel), gw (i := 9) (by decide +kernel) rfl, ⟨by decide +kernel, by decide +kernel⟩, by decide, by decide +kernel⟩
theorem mv_X10_arrive : MeV mX10_arrive 4 8 := ⟨mc_X10_arrive, by unfold MeN; decide +kernel, gw (i := 785) (by decide +kernel) rfl, gs (i := 29) (by decide +kernel) rfl, rfl⟩
theorem mc_X10_finish : MeC mX10_finish := ⟨gw (i := 790) (by decide +kernel) (by decide +kernel), gw (i := 9) (by decide +kernel) rfl, ⟨by decide +kernel, by decide +kernel⟩, by decide, by decide +kernel⟩
theorem mv_X10_finish : MeV mX10_finish 4 8 := ⟨mc_X10_finish, by unfold MeN; decide +kernel, gw (i := 789) (by decide +kernel) rfl, gs (i := 30) (by decide +kernel) rfl, rfl⟩
theorem mc_X10_passYear : MeC mX10_passYear := ⟨gw (i := 797) (by decide +kernel) (by decide +kernel), gw (i := 9) (by decide +kernel) rfl, ⟨by decide +kernel, by decide +kernel⟩, by decide, by decide +kernel⟩
theorem mv_X10_passYear : MeV mX10_passYear 6 8 := ⟨mc_X10_passYear, by unfold MeN; decide +kernel, gw (i := 796) (by decide +kernel) rfl, gs (i := 31) (by decide +kernel) rfl, rfl⟩
theorem mc_X10_settleNotice : MeC mX10_settleNotice := ⟨gw (i := 802) (by decide +kernel) (by decide +kernel), gw (i := 9) (by decide +kernel) rfl, ⟨by decide +kernel, by decide +kernel⟩, by decide, by decide +kernel⟩
theorem mv_X10_settleNotice : MeV mX10_settleNotice 5 8 := ⟨mc_X10_settleNotice, by unfold MeN; decide +kernel, gw (i := 801) (by decide +kernel) rfl, gs (i := 32) (by decide +kernel) rfl, rfl⟩
theorem mc_J7_rangeCheck_23922 : MeC mJ7_rangeCheck_23922 := ⟨gw (i := 433) (by decide +kernel) (by decide +kernel), gw (i := 12) (by decide +kernel) rfl, ⟨by decide +kernel, by decide +kernel⟩, by decide, by decide +kernel⟩
theorem ms_J7_rangeCheck_23922 : MeS mJ7_rangeCheck_23922 3 := ⟨mc_J7_rangeCheck_23922, by unfold MeN; decide +kernel, gw (i := 432) (by decide +kernel) rfl⟩
theorem mc_X11_feed : MeC mX11_feed := ⟨gw (i := 378) (by decide +kernel) (by decide +kernel), gw (i := 1) (by decide +kernel) rfl, ⟨by decide +kernel, by decide +kernel⟩, by decide, by decide +kernel⟩
theorem mv_X11_feed : MeV mX11_feed 5 9 := ⟨mc_X11_feed, by unfold MeN; decide +kernel, gw (i := 376) (by decide +kernel) rfl, gw (i := 377) (by decide +kernel) rfl, rfl⟩
theorem mc_X11_end : MeC mX11_end := ⟨gw (i := 390) (by decide +kernel) (by decide +kernel), gw (i := 1) (by decide +kernel) rfl, ⟨by decide +kernel, by decide +kernel⟩, by decide, by decide +kernel⟩
theorem mv_X11_end : MeV mX11_end 1 9 := ⟨mc_X11_end, by unfold MeN; decide +kernel, gw (i := 388) (by decide +kernel) rfl, gw (i := 389) (by decide +kernel) rfl, rfl⟩
theorem mc_X11_fault : MeC mX11_fault := ⟨gw (i := 394) (by decide +kernel) (by decide +kernel), gw (i := 1) (by decide +kernel) rfl, ⟨by decide +kernel, by decide +kernel⟩, by decide, by decide +kernel⟩
theorem mv_X11_fault : MeV mX11_fault 1 9 := ⟨mc_X11_fault, by unfold MeN; decide +kernel, gw (i := 392) (by decide +kernel) rfl, gw (i := 393) (by decide +kernel) rfl, rfl⟩
theorem mc_X11_text : MeC mX11_text := ⟨gw (i := 468) (by decide +kernel) (by decide +kernel), gw (i := 1) (by decide +kernel) rfl, ⟨by decide +kernel, by decide +kernel⟩, by decide, by decide +kernel⟩
theorem mv_X11_text : MeV mX11_text 1 9 := ⟨mc_X11_text, by unfold MeN; decide +kernel, gw (i := 466) (by decide +kernel) rfl, gw (i := 467) (by decide +kernel) rfl, rfl⟩
theorem mc_X11_rule : MeC mX11_rule := ⟨gw (i := 530) (by decide +kernel) (by decide +kernel), gw (i := 1) (by decide +kernel) rfl, ⟨by decide +kernel, by decide +kernel⟩, by decide, by decide +kernel⟩
theorem mv_X11_rule : MeV mX11_rule 1 9 := ⟨mc_X11_rule, by unfold MeN; decide +kernel, gw (i := 528) (by decide +kernel) rfl, gw (i := 529) (by decide +kernel) rfl, rfl⟩
theorem mc_X11_year : MeC mX11_year := ⟨gw (i := 534) (by decide +kernel) (by decide +kernel), gw (i := 1) (by decide +kernel) rfl, ⟨by decide +kernel, by decide +kernel⟩, by decide, by decide +kernel⟩
theorem mv_X11_year : MeV mX11_year 2 9 := ⟨mc_X11_year, by unfold MeN; decide +kernel, gw (i := 532) (by decide +kernel) rfl, gw (i := 533) (by decide +kernel) rfl, rfl⟩
theorem mc_X11_costs : MeC mX11_costs := ⟨gw (i := 559) (by decide +kernel) (by decide +kernel), gw (i := 1) (by decide +kernel) rfl, ⟨by decide +kernel, by decide +kernel⟩, by decide, by decide +kernel⟩
theorem mv_X11_costs : MeV mX11_costs 3 9 := ⟨mc_X11_costs, by unfold MeN; decide +kernel, gw (i := 557) (by decide +kernel) rfl, gw (i := 558) (by decide +kernel) rfl, rfl⟩
theorem mc_X11_best : MeC mX11_best := ⟨gw (i := 620) (by decide +kernel) (by decide +kernel), gw (i := 1) (by decide +kernel) rfl, ⟨by decide +kernel, by decide +kernel⟩, by decide, by decide +kernel⟩
theorem mv_X11_best : MeV mX11_best 2 9 := ⟨mc_X11_best, by unfold MeN; decide +kernel, gw (i := 618) (by decide +kernel) rfl, gw (i := 619) (by decide +kernel) rfl, rfl⟩
theorem mc_X11_up : MeC mX11_up := ⟨gw (i := 624) (by decide +kernel) (by decide +kernel), gw (i := 1) (by decide +kernel) rfl, ⟨by decide +kernel, by decide +kernel⟩, by decide, by decide +kernel⟩
theorem mv_X11_up : MeV mX11_up 0 9 := ⟨mc_X11_up, by unfold MeN; decide +kernel, gw (i := 622) (by decide +kernel) rfl, gw (i := 623) (by decide +kernel) rfl, rfl⟩
theorem mc_X11_down : MeC mX11_down := ⟨gw (i := 692) (by decide +kernel) (by decide +kernel), gw (i := 1) (by decide +kernel) rfl, ⟨by decide +kernel, by decide +kernel⟩, by decide, by decide +kernel⟩
theorem mv_X11_down : MeV mX11_down 0 9 := ⟨mc_X11_down, by unfold MeN; decide +kernel, gw (i := 690) (by decide +kernel) rfl, gw (i := 691) (by decide +kernel) rfl, rfl⟩
theorem mc_X11_call : MeC mX11_call := ⟨gw (i := 696) (by decide +kernel) (by decide +kernel), gw (i := 1) (by decide +kernel) rfl, ⟨by decide +kernel, by decide +kernel⟩, by decide, by decide +kernel⟩
theorem mv_X11_call : MeV mX11_call 0 9 := ⟨mc_X11_call, by unfold MeN; decide +kernel, gw (i := 694) (by decide +kernel) rfl, gw (i := 695) (by decide +kernel) rfl, rfl⟩
theorem mc_X11_refund : MeC mX11_refund := ⟨gw (i := 700) (by decide +kernel) (by decide +kernel), gw (i := 1) (by decide +kernel) rfl, ⟨by decide +kernel, by decide +kernel⟩, by decide, by decide +kernel⟩
theorem mv_X11_refund : MeV mX11_refund 0 9 := ⟨mc_X11_refund, by unfold MeN; decide +kernel, gw (i := 698) (by decide +kernel) rfl, gw (i := 699) (by decide +kernel) rfl, rfl⟩
theorem mc_X11_withdraw : MeC mX11_withdraw := ⟨gw (i := 704) (by decide +kernel) (by decide +kernel), gw (i := 1) (by decide +kernel) rfl, ⟨by decide +kernel, by decide +kernel⟩, by decide, by decide +kernel⟩
theorem mv_X11_withdraw : MeV mX11_withdraw 0 9 := ⟨mc_X11_withdraw, by unfold MeN; decide +kernel, gw (i := 702) (by decide +kernel) rfl, gw (i := 703) (by decide +kernel) rfl, rfl⟩
theorem mc_X11_instal : MeC mX11_instal := ⟨gw (i := 708) (by decide +kernel) (by decide +kernel), gw (i := 1) (by decide +kernel) rfl, ⟨by decide +kernel, by decide +kernel⟩, by decide, by decide +kernel⟩
theorem mv_X11_instal : MeV mX11_instal 2 9 := ⟨mc_X11_instal, by unfold MeN; decide +kernel, gw (i := 706) (by decide +kernel) rfl, gw (i := 707) (by decide +kernel) rfl, rfl⟩
theorem mc_X11_tell : MeC mX11_tell := ⟨gw (i := 712) (by decide +kernel) (by decide +kernel), gw (i := 1) (by decide +kernel) rfl, ⟨by decide +kernel, by decide +kernel⟩, by decide, by decide +kernel⟩
theorem mv_X11_tell : MeV mX11_tell 3 9 := ⟨mc_X11_tell, by unfold MeN; decide +kernel, gw (i := 710) (by decide +kernel) rfl, gw (i := 711) (by decide +kernel) rfl, rfl⟩
theorem mc_X11_doBest : MeC mX11_doBest := ⟨gw (i := 716) (by decide +kernel) (by decide +kernel), gw (i := 1) (by decide +kernel) rfl, ⟨by decide +kernel, by decide +kernel⟩, by decide, by decide +kernel⟩
theorem mv_X11_doBest : MeV mX11_doBest 0 9 := ⟨mc_X11_doBest, by unfold MeN; decide +kernel, gw (i := 714) (by decide +kernel) rfl, gw (i := 715) (by decide +kernel) rfl, rfl⟩
theorem mc_X11_adopt : MeC mX11_adopt := ⟨gw (i := 720) (by decide +kernel) (by decide +kernel), gw (i := 1) (by decide +kernel) rfl, ⟨by decide +kernel, by decide +kernel⟩, by decide, by decide +kernel⟩
theorem mv_X11_adopt : MeV mX11_adopt 0 9 := ⟨mc_X11_adopt, by unfold MeN; decide +kernel, gw (i := 718) (by decide +kernel) rfl, gw (i := 719) (by decide +kernel) rfl, rfl⟩
theorem mc_X11_follow : MeC mX11_follow := ⟨gw (i := 724) (by decide +kernel) (by decide +kernel), gw (i := 1) (by decide +kernel) rfl, ⟨by decide +kernel, by decide +kernel⟩, by decide, by decide +kernel⟩
theorem mv_X11_follow : MeV mX11_follow 0 9 := ⟨mc_X11_follow, by unfold MeN; decide +kernel, gw (i := 722) (by decide +kernel) rfl, gw (i := 723) (by decide +kernel) rfl, rfl⟩
theorem mc_X11_years : MeC mX11_years := ⟨gw (i := 728) (by decide +kernel) (by decide +kernel), gw (i := 1) (by decide +kernel) rfl, ⟨by decide +kernel, by decide +kernel⟩, by decide, by decide +kernel⟩
theorem mv_X11_years : MeV mX11_years 2 9 := ⟨mc_X11_years, by unfold MeN; decide +kernel, gw (i := 726) (by decide +kernel) rfl, gw (i := 727) (by decide +kernel) rfl, rfl⟩
theorem mc_X11_undo : MeC mX11_undo := ⟨gw (i := 746) (by decide +kernel) (by decide +kernel), gw (i := 1) (by decide +kernel) rfl, ⟨by decide +kernel, by decide +kernel⟩, by decide, by decide +kernel⟩
theorem mv_X11_undo : MeV mX11_undo 0 9 := ⟨mc_X11_undo, by unfold MeN; decide +kernel, gw (i := 744) (by decide +kernel) rfl, gw (i := 745) (by decide +kernel) rfl, rfl⟩
theorem mc_X11_log : MeC mX11_log := ⟨gw (i := 754) (by decide +kernel) (by decide +kernel), gw (i := 1) (by decide +kernel) rfl, ⟨by decide +kernel, by decide +kernel⟩, by decide, by decide +kernel⟩
theorem mv_X11_log : MeV mX11_log 2 9 := ⟨mc_X11_log, by unfold MeN; decide +kernel, gw (i := 752) (by decide +kernel) rfl, gw (i := 753) (by decide +kernel) rfl, rfl⟩
theorem mc_X11_way : MeC mX11_way := ⟨gw (i := 769) (by decide +kernel) (by decide +kernel), gw (i := 1) (by decide +kernel) rfl, ⟨by decide +kernel, by decide +kernel⟩, by decide, by decide +kernel⟩
theorem mv_X11_way : MeV mX11_way 2 9 := ⟨mc_X11_way, by unfold MeN; decide +kernel, gw (i := 767) (by decide +kernel) rfl, gw (i := 768) (by decide +kernel) rfl, rfl⟩
theorem mc_X11_mass : MeC mX11_mass := ⟨gw (i := 809) (by decide +kernel) (by decide +kernel), gw (i := 1) (by decide +kernel) rfl, ⟨by decide +kernel, by decide +kernel⟩, by decide, by decide +kernel⟩
theorem mv_X11_mass : MeV mX11_mass 2 9 := ⟨mc_X11_mass, by unfold MeN; decide +kernel, gw (i := 807) (by decide +kernel) rfl, gw (i := 808) (by decide +kernel) rfl, rfl⟩
theorem mc_X11_masses : MeC mX11_masses := ⟨gw (i := 821) (by decide +kernel) (by decide +kernel), gw (i := 1) (by decide +kernel) rfl, ⟨by decide +kernel, by decide +kernel⟩, by decide, by decide +kernel⟩
theorem mv_X11_masses : MeV mX11_masses 1 9 := ⟨mc_X11_masses, by unfold MeN; decide +kernel, gw (i := 819) (by decide +kernel) rfl, gw (i := 820) (by decide +kernel) rfl, rfl⟩
theorem mc_X11_worth : MeC mX11_worth := ⟨gw (i := 833) (by decide +kernel) (by decide +kernel), gw (i := 1) (by decide +kernel) rfl, ⟨by decide +kernel, by decide +kernel⟩, by decide, by decide +kernel⟩
theorem mv_X11_worth : MeV mX11_worth 0 9 := ⟨mc_X11_worth, by unfold MeN; decide +kernel, gw (i := 831) (by decide +kernel) rfl, gw (i := 832) (by decide +kernel) rfl, rfl⟩
theorem mc_X11_margin : MeC mX11_margin := ⟨gw (i := 846) (by decide +kernel) (by decide +kernel), gw (i := 1) (by decide +kernel) rfl, ⟨by decide +kernel, by decide +kernel⟩, by decide, by decide +kernel⟩
theorem mv_X11_margin : MeV mX11_margin 0 9 := ⟨mc_X11_margin, by unfold MeN; decide +kernel, gw (i := 844) (by decide +kernel) rfl, gw (i := 845) (by decide +kernel) rfl, rfl⟩
theorem mc_X11_till : MeC mX11_till := ⟨gw (i := 852) (by decide +kernel) (by decide +kernel), gw (i := 1) (by decide +kernel) rfl, ⟨by decide +kernel, by decide +kernel⟩, by decide, by decide +kernel⟩
theorem mv_X11_till : MeV mX11_till 0 9 := ⟨mc_X11_till, by unfold MeN; decide +kernel, gw (i := 850) (by decide +kernel) rfl, gw (i := 851) (by decide +kernel) rfl, rfl⟩
theorem mc_X11_edge : MeC mX11_edge := ⟨gw (i := 876) (by decide +kernel) (by decide +kernel), gw (i := 1) (by decide +kernel) rfl, ⟨by decide +kernel, by decide +kernel⟩, by decide, by decide +kernel⟩
theorem mv_X11_edge : MeV mX11_edge 1 9 := ⟨mc_X11_edge, by unfold MeN; decide +kernel, gw (i := 874) (by decide +kernel) rfl, gw (i := 875) (by decide +kernel) rfl, rfl⟩
theorem mc_X11_fair : MeC mX11_fair := ⟨gw (i := 880) (by decide +kernel) (by decide +kernel), gw (i := 1) (by decide +kernel) rfl, ⟨by decide +kernel, by decide +kernel⟩, by decide, by decide +kernel⟩
theorem mv_X11_fair : MeV mX11_fair 0 9 := ⟨mc_X11_fair, by unfold MeN; decide +kernel, gw (i := 878) (by decide +kernel) rfl, gw (i := 879) (by decide +kernel) rfl, rfl⟩
theorem mc_X11_ending : MeC mX11_ending := ⟨gw (i := 884) (by decide +kernel) (by decide +kernel), gw (i := 1) (by decide +kernel) rfl, ⟨by decide +kernel, by decide +kernel⟩, by decide, by decide +kernel⟩
theorem mv_X11_ending : MeV mX11_ending 2 9 := ⟨mc_X11_ending, by unfold MeN; decide +kernel, gw (i := 882) (by decide +kernel) rfl, gw (i := 883) (by decide +kernel) rfl, rfl⟩
theorem mc_X11_saved : MeC mX11_saved := ⟨gw (i := 888) (by decide +kernel) (by decide +kernel), gw (i := 1) (by decide +kernel) rfl, ⟨by decide +kernel, by decide +kernel⟩, by decide, by decide +kernel⟩
theorem mv_X11_saved : MeV mX11_saved 0 9 := ⟨mc_X11_saved, by unfold MeN; decide +kernel, gw (i := 886) (by decide +kernel) rfl, gw (i := 887) (by decide +kernel) rfl, rfl⟩
theorem mc_X11_sums : MeC mX11_sums := ⟨gw (i := 892) (by decide +kernel) (by decide +kernel), gw (i := 1) (by decide +kernel) rfl, ⟨by decide +kernel, by decide +kernel⟩, by decide, by decide +kernel⟩
theorem mv_X11_sums : MeV mX11_sums 1 9 := ⟨mc_X11_sums, by unfold MeN; decide +kernel, gw (i := 890) (by decide +kernel) rfl, gw (i := 891) (by decide +kernel) rfl, rfl⟩
theorem mc_X11_deed : MeC mX11_deed := ⟨gw (i := 896) (by decide +kernel) (by decide +kernel), gw (i := 1) (by decide +kernel) rfl, ⟨by decide +kernel, by decide +kernel⟩, by decide, by decide +kernel⟩
theorem mv_X11_deed : MeV mX11_deed 2 9 := ⟨mc_X11_deed, by unfold MeN; decide +kernel, gw (i := 894) (by decide +kernel) rfl, gw (i := 895) (by decide +kernel) rfl, rfl⟩
theorem mc_X11_byPolicy : MeC mX11_byPolicy := ⟨gw (i := 900) (by decide +kernel) (by decide +kernel), gw (i := 1) (by decide +kernel) rfl, ⟨by decide +kernel, by decide +kernel⟩, by decide, by decide +kernel⟩
theorem mv_X11_byPolicy : MeV mX11_byPolicy 2 9 := ⟨mc_X11_byPolicy, by unfold MeN; decide +kernel, gw (i := 898) (by decide +kernel) rfl, gw (i := 899) (by decide +kernel) rfl, rfl⟩
theorem mc_X11_regret : MeC mX11_regret := ⟨gw (i := 904) (by decide +kernel) (by decide +kernel), gw (i := 1) (by decide +kernel) rfl, ⟨by decide +kernel, by decide +kernel⟩, by decide, by decide +kernel⟩
theorem mv_X11_regret : MeV mX11_regret 0 9 := ⟨mc_X11_regret, by unfold MeN; decide +kernel, gw (i := 902) (by decide +kernel) rfl, gw (i := 903) (by decide +kernel) rfl, rfl⟩
theorem mc_X11_strays : MeC mX11_strays := ⟨gw (i := 908) (by decide +kernel) (by decide +kernel), gw (i := 1) (by decide +kernel) rfl, ⟨by decide +kernel, by decide +kernel⟩, by decide, by decide +kernel⟩
theorem mv_X11_strays : MeV mX11_strays 1 9 := ⟨mc_X11_strays, by unfold MeN; decide +kernel, gw (i := 906) (by decide +kernel) rfl, gw (i := 907) (by decide +kernel) rfl, rfl⟩
theorem mc_X11_mended : MeC mX11_mended := ⟨gw (i := 912) (by decide +kernel) (by decide +kernel), gw (i := 1) (by decide +kernel) rfl, ⟨by decide +kernel, by decide +kernel⟩, by decide, by decide +kernel⟩
theorem mv_X11_mended : MeV mX11_mended 2 9 := ⟨mc_X11_mended, by unfold MeN; decide +kernel, gw (i := 910) (by decide +kernel) rfl, gw (i := 911) (by decide +kernel) rfl, rfl⟩
theorem mc_X11_rounds : MeC mX11_rounds := ⟨gw (i := 917) (by decide +kernel) (by decide +kernel), gw (i := 1) (by decide +kernel) rfl, ⟨by decide +kernel, by decide +kernel⟩, by decide, by decide +kernel⟩
theorem mv_X11_rounds : MeV mX11_rounds 0 9 := ⟨mc_X11_rounds, by unfold MeN; decide +kernel, gw (i := 915) (by decide +kernel) rfl, gw (i := 916) (by decide +kernel) rfl, rfl⟩
theorem mc_X11_shifted : MeC mX11_shifted := ⟨gw (i := 925) (by decide +kernel) (by decide +kernel), gw (i := 1) (by decide +kernel) rfl, ⟨by decide +kernel, by decide +kernel⟩, by decide, by decide +kernel⟩
theorem mv_X11_shifted : MeV mX11_shifted 1 9 := ⟨mc_X11_shifted, by unfold MeN; decide +kernel, gw (i := 923) (by decide +kernel) rfl, gw (i := 924) (by decide +kernel) rfl, rfl⟩
theorem mc_X11_spread : MeC mX11_spread := ⟨gw (i := 929) (by decide +kernel) (by decide +kernel), gw (i := 1) (by decide +kernel) rfl, ⟨by decide +kernel, by decide +kernel⟩, by decide, by decide +kernel⟩
theorem mv_X11_spread : MeV mX11_spread 1 9 := ⟨mc_X11_spread, by unfold MeN; decide +kernel, gw (i := 927) (by decide +kernel) rfl, gw (i := 928) (by decide +kernel) rfl, rfl⟩
theorem mc_X11_step : MeC mX11_step := ⟨gw (i := 933) (by decide +kernel) (by decide +kernel), gw (i := 1) (by decide +kernel) rfl, ⟨by decide +kernel, by decide +kernel⟩, by decide, by decide +kernel⟩
theorem mv_X11_step : MeV mX11_step 3 9 := ⟨mc_X11_step, by unfold MeN; decide +kernel, gw (i := 931) (by decide +kernel) rfl, gw (i := 932) (by decide +kernel) rfl, rfl⟩
theorem mc_X11_run : MeC mX11_run := ⟨gw (i := 951) (by decide +kernel) (by decide +kernel), gw (i := 1) (by decide +kernel) rfl, ⟨by decide +kernel, by decide +kernel⟩, by decide, by decide +kernel⟩
theorem mv_X11_run : MeV mX11_run 2 9 := ⟨mc_X11_run, by unfold MeN; decide +kernel, gw (i := 949) (by decide +kernel) rfl, gw (i := 950) (by decide +kernel) rfl, rfl⟩
theorem mc_X11_perform : MeC mX11_perform := ⟨gw (i := 959) (by decide +kernel) (by decide +kernel), gw (i := 1) (by decide +kernel) rfl, ⟨by decide +kernel, by decide +kernel⟩, by decide, by decide +kernel⟩
theorem mv_X11_perform : MeV mX11_perform 1 9 := ⟨mc_X11_perform, by unfold MeN; decide +kernel, gw (i := 957) (by decide +kernel) rfl, gw (i := 958) (by decide +kernel) rfl, rfl⟩
theorem mc_X11_most : MeC mX11_most := ⟨gw (i := 963) (by decide +kernel) (by decide +kernel), gw (i := 1) (by decide +kernel) rfl, ⟨by decide +kernel, by decide +kernel⟩, by decide, by decide +kernel⟩
theorem mv_X11_most : MeV mX11_most 1 9 := ⟨mc_X11_most, by unfold MeN; decide +kernel, gw (i := 961) (by decide +kernel) rfl, gw (i := 962) (by decide +kernel) rfl, rfl⟩
theorem mc_X11_image : MeC mX11_image := ⟨gw (i := 976) (by decide +kernel) (by decide +kernel), gw (i := 1) (by decide +kernel) rfl, ⟨by decide +kernel, by decide +kernel⟩, by decide, by decide +kernel⟩
theorem mv_X11_image : MeV mX11_image 0 9 := ⟨mc_X11_image, by unfold MeN; decide +kernel, gw (i := 974) (by decide +kernel) rfl, gw (i := 975) (by decide +kernel) rfl, rfl⟩
theorem mc_X11_back : MeC mX11_back := ⟨gw (i := 984) (by decide +kernel) (by decide +kernel), gw (i := 1) (by decide +kernel) rfl, ⟨by decide +kernel, by decide +kernel⟩, by decide, by decide +kernel⟩
theorem mv_X11_back : MeV mX11_back 0 9 := ⟨mc_X11_back, by unfold MeN; decide +kernel, gw (i := 982) (by decide +kernel) rfl, gw (i := 983) (by decide +kernel) rfl, rfl⟩
theorem mc_X11_count : MeC mX11_count := ⟨gw (i := 992) (by decide +kernel) (by decide +kernel), gw (i := 1) (by decide +kernel) rfl, ⟨by decide +kernel, by decide +kernel⟩, by decide, by decide +kernel⟩
theorem mv_X11_count : MeV mX11_count 1 9 := ⟨mc_X11_count, by unfold MeN; decide +kernel, gw (i := 990) (by decide +kernel) rfl, gw (i := 991) (by decide +kernel) rfl, rfl⟩
theorem mc_X12_thrown : MeC mX12_thrown := ⟨gw (i := 1212) (by decide +kernel) (by decide +kernel), gw (i := 11) (by decide +kernel) rfl, ⟨by decide +kernel, by decide +kernel⟩, by decide, by decide +kernel⟩
theorem mv_X12_thrown : MeV mX12_thrown 0 10 := ⟨mc_X12_thrown, by unfold MeN; decide +kernel, gw (i := 1210) (by decide +kernel) rfl, gw (i := 1211) (by decide +kernel) rfl, rfl⟩
theorem mc_X12_feed : MeC mX12_feed := ⟨gw (i := 1216) (by decide +kernel) (by decide +kernel), gw (i := 11) (by decide +kernel) rfl, ⟨by decide +kernel, by decide +kernel⟩, by decide, by decide +kernel⟩
theorem mv_X12_feed : MeV mX12_feed 5 10 := ⟨mc_X12_feed, by unfold MeN; decide +kernel, gw (i := 1214) (by decide +kernel) rfl, gw (i := 1215) (by decide +kernel) rfl, rfl⟩
theorem mc_X12_end : MeC mX12_end := ⟨gw (i := 1227) (by decide +kernel) (by decide +kernel), gw (i := 11) (by decide +kernel) rfl, ⟨by decide +kernel, by decide +kernel⟩, by decide, by decide +kernel⟩
theorem mv_X12_end : MeV mX12_end 1 10 := ⟨mc_X12_end, by unfold MeN; decide +kernel, gw (i := 1225) (by decide +kernel) rfl, gw (i := 1226) (by decide +kernel) rfl, rfl⟩
theorem mc_X12_text : MeC mX12_text := ⟨gw (i := 1360) (by decide +kernel) (by decide +kernel), gw (i := 11) (by decide +kernel) rfl, ⟨by decide +kernel, by decide +kernel⟩, by decide, by decide +kernel⟩
theorem mv_X12_text : MeV mX12_text 1 10 := ⟨mc_X12_text, by unfold MeN; decide +kernel, gw (i := 1358) (by decide +kernel) rfl, gw (i := 1359) (by decide +kernel) rfl, rfl⟩
theorem mc_X12_up : MeC mX12_up := ⟨gw (i := 1380) (by decide +kernel) (by decide +kernel), gw (i := 11) (by decide +kernel) rfl, ⟨by decide +kernel, by decide +kernel⟩, by decide, by decide +kernel⟩
theorem mv_X12_up : MeV mX12_up 0 10 := ⟨mc_X12_up, by unfold MeN; decide +kernel, gw (i := 1378) (by decide +kernel) rfl, gw (i := 1379) (by decide +kernel) rfl, rfl⟩
theorem mc_X12_down : MeC mX12_down := ⟨gw (i := 1519) (by decide +kernel) (by decide +kernel), gw (i := 11) (by decide +kernel) rfl, ⟨by decide +kernel, by decide +kernel⟩, by decide, by decide +kernel⟩
theorem mv_X12_down : MeV mX12_down 0 10 := ⟨mc_X12_down, by unfold MeN; decide +kernel, gw (i := 1517) (by decide +kernel) rfl, gw (i := 1518) (by decide +kernel) rfl, rfl⟩
theorem mc_X12_call : MeC mX12_call := ⟨gw (i := 1523) (by decide +kernel) (by decide +kernel), gw (i := 11) (by decide +kernel) rfl, ⟨by decide +kernel, by decide +kernel⟩, by decide, by decide +kernel⟩
theorem mv_X12_call : MeV mX12_call 0 10 := ⟨mc_X12_call, by unfold MeN; decide +kernel, gw (i := 1521) (by decide +kernel) rfl, gw (i := 1522) (by decide +kernel) rfl, rfl⟩
theorem mc_X12_refund : MeC mX12_refund := ⟨gw (i := 1527) (by decide +kernel) (by decide +kernel), gw (i := 11) (by decide +kernel) rfl, ⟨by decide +kernel, by decide +kernel⟩, by decide, by decide +kernel⟩
theorem mv_X12_refund : MeV mX12_refund 0 10 := ⟨mc_X12_refund, by unfold MeN; decide +kernel, gw (i := 1525) (by decide +kernel) rfl, gw (i := 1526) (by decide +kernel) rfl, rfl⟩
theorem mc_X12_withdraw : MeC mX12_withdraw := ⟨gw (i := 1531) (by decide +kernel) (by decide +kernel), gw (i := 11) (by decide +kernel) rfl, ⟨by decide +kernel, by decide +kernel⟩, by decide, by decide +kernel⟩
theorem mv_X12_withdraw : MeV mX12_withdraw 0 10 := ⟨mc_X12_withdraw, by unfold MeN; decide +kernel, gw (i := 1529) (by decide +kernel) rfl, gw (i := 1530) (by decide +kernel) rfl, rfl⟩
theorem mc_X12_instal : MeC mX12_instal := ⟨gw (i := 1535) (by decide +kernel) (by decide +kernel), gw (i := 11) (by decide +kernel) rfl, ⟨by decide +kernel, by decide +kernel⟩, by decide, by decide +kernel⟩
theorem mv_X12_instal : MeV mX12_instal 2 10 := ⟨mc_X12_instal, by unfold MeN; decide +kernel, gw (i := 1533) (by decide +kernel) rfl, gw (i := 1534) (by decide +kernel) rfl, rfl⟩
theorem mc_X12_tell : MeC mX12_tell := ⟨gw (i := 1539) (by decide +kernel) (by decide +kernel), gw (i := 11) (by decide +kernel) rfl, ⟨by decide +kernel, by decide +kernel⟩, by decide, by decide +kernel⟩
theorem mv_X12_tell : MeV mX12_tell 3 10 := ⟨mc_X12_tell, by unfold MeN; decide +kernel, gw (i := 1537) (by decide +kernel) rfl, gw (i := 1538) (by decide +kernel) rfl, rfl⟩
theorem mc_X12_doBest : MeC mX12_doBest := ⟨gw (i := 1543) (by decide +kernel) (by decide +kernel), gw (i := 11) (by decide +kernel) rfl, ⟨by decide +kernel, by decide +kernel⟩, by decide, by decide +kernel⟩
theorem mv_X12_doBest : MeV mX12_doBest 0 10 := ⟨mc_X12_doBest, by unfold MeN; decide +kernel, gw (i := 1541) (by decide +kernel) rfl, gw (i := 1542) (by decide +kernel) rfl, rfl⟩
theorem mc_X12_adopt : MeC mX12_adopt := ⟨gw (i := 1547) (by decide +kernel) (by decide +kernel), gw (i := 11) (by decide +kernel) rfl, ⟨by decide +kernel, by decide +kernel⟩, by decide, by decide +kernel⟩
theorem mv_X12_adopt : MeV mX12_adopt 0 10 := ⟨mc_X12_adopt, by unfold MeN; decide +kernel, gw (i := 1545) (by decide +kernel) rfl, gw (i := 1546) (by decide +kernel) rfl, rfl⟩
theorem mc_X12_follow : MeC mX12_follow := ⟨gw (i := 1551) (by decide +kernel) (by decide +kernel), gw (i := 11) (by decide +kernel) rfl, ⟨by decide +kernel, by decide +kernel⟩, by decide, by decide +kernel⟩
theorem mv_X12_follow : MeV mX12_follow 0 10 := ⟨mc_X12_follow, by unfold MeN; decide +kernel, gw (i := 1549) (by decide +kernel) rfl, gw (i := 1550) (by decide +kernel) rfl, rfl⟩
theorem mc_X12_years : MeC mX12_years := ⟨gw (i := 1555) (by decide +kernel) (by decide +kernel), gw (i := 11) (by decide +kernel) rfl, ⟨by decide +kernel, by decide +kernel⟩, by decide, by decide +kernel⟩
theorem mv_X12_years : MeV mX12_years 2 10 := ⟨mc_X12_years, by unfold MeN; decide +kernel, gw (i := 1553) (by decide +kernel) rfl, gw (i := 1554) (by decide +kernel) rfl, rfl⟩
theorem mc_X12_status : MeC mX12_status := ⟨gw (i := 1570) (by decide +kernel) (by decide +kernel), gw (i := 11) (by decide +kernel) rfl, ⟨by decide +kernel, by decide +kernel⟩, by decide, by decide +kernel⟩
theorem mv_X12_status : MeV mX12_status 1 10 := ⟨mc_X12_status, by unfold MeN; decide +kernel, gw (i := 1568) (by decide +kernel) rfl, gw (i := 1569) (by decide +kernel) rfl, rfl⟩
theorem mc_X12_undo : MeC mX12_undo := ⟨gw (i := 1575) (by decide +kernel) (by decide +kernel), gw (i := 11) (by decide +kernel) rfl, ⟨by decide +kernel, by decide +kernel⟩, by decide, by decide +kernel⟩
theorem mv_X12_undo : MeV mX12_undo 0 10 := ⟨mc_X12_undo, by unfold MeN; decide +kernel, gw (i := 1573) (by decide +kernel) rfl, gw (i := 1574) (by decide +kernel) rfl, rfl⟩
theorem mc_X12_log : MeC mX12_log := ⟨gw (i := 1579) (by decide +kernel) (by decide +kernel), gw (i := 11) (by decide +kernel) rfl, ⟨by decide +kernel, by decide +kernel⟩, by decide, by decide +kernel⟩
theorem mv_X12_log : MeV mX12_log 2 10 := ⟨mc_X12_log, by unfold MeN; decide +kernel, gw (i := 1577) (by decide +kernel) rfl, gw (i := 1578) (by decide +kernel) rfl, rfl⟩
theorem mc_X12_image : MeC mX12_image := ⟨gw (i := 1584) (by decide +kernel) (by decide +kernel), gw (i := 11) (by decide +kernel) rfl, ⟨by decide +kernel, by decide +kernel⟩, by decide, by decide +kernel⟩
theorem mv_X12_image : MeV mX12_image 0 10 := ⟨mc_X12_image, by unfold MeN; decide +kernel, gw (i := 1582) (by decide +kernel) rfl, gw (i := 1583) (by decide +kernel) rfl, rfl⟩
theorem mc_X12_back : MeC mX12_back := ⟨gw (i := 1588) (by decide +kernel) (by decide +kernel), gw (i := 11) (by decide +kernel) rfl, ⟨by decide +kernel, by decide +kernel⟩, by decide, by decide +kernel⟩
theorem mv_X12_back : MeV mX12_back 0 10 := ⟨mc_X12_back, by unfold MeN; decide +kernel, gw (i := 1586) (by decide +kernel) rfl, gw (i := 1587) (by decide +kernel) rfl, rfl⟩
theorem mc_X12_rule : MeC mX12_rule := ⟨gw (i := 1592) (by decide +kernel) (by decide +kernel), gw (i := 11) (by decide +kernel) rfl, ⟨by decide +kernel, by decide +kernel⟩, by decide, by decide +kernel⟩
theorem mv_X12_rule : MeV mX12_rule 1 10 := ⟨mc_X12_rule, by unfold MeN; decide +kernel, gw (i := 1590) (by decide +kernel) rfl, gw (i := 1591) (by decide +kernel) rfl, rfl⟩
theorem mc_X12_rate : MeC mX12_rate := ⟨gw (i := 1597) (by decide +kernel) (by decide +kernel), gw (i := 11) (by decide +kernel) rfl, ⟨by decide +kernel, by decide +kernel⟩, by decide, by decide +kernel⟩
theorem mv_X12_rate : MeV mX12_rate 2 10 := ⟨mc_X12_rate, by unfold MeN; decide +kernel, gw (i := 1595) (by decide +kernel) rfl, gw (i := 1596) (by decide +kernel) rfl, rfl⟩
theorem mc_X12_year : MeC mX12_year := ⟨gw (i := 1601) (by decide +kernel) (by decide +kernel), gw (i := 11) (by decide +kernel) rfl, ⟨by decide +kernel, by decide +kernel⟩, by decide, by decide +kernel⟩
theorem mv_X12_year : MeV mX12_year 2 10 := ⟨mc_X12_year, by unfold MeN; decide +kernel, gw (i := 1599) (by decide +kernel) rfl, gw (i := 1600) (by decide +kernel) rfl, rfl⟩
theorem mc_X12_costs : MeC mX12_costs := ⟨gw (i := 1606) (by decide +kernel) (by decide +kernel), gw (i := 11) (by decide +kernel) rfl, ⟨by decide +kernel, by decide +kernel⟩, by decide, by decide +kernel⟩
theorem mv_X12_costs : MeV mX12_costs 3 10 := ⟨mc_X12_costs, by unfold MeN; decide +kernel, gw (i := 1604) (by decide +kernel) rfl, gw (i := 1605) (by decide +kernel) rfl, rfl⟩
theorem mc_X12_best : MeC mX12_best := ⟨gw (i := 1616) (by decide +kernel) (by decide +kernel), gw (i := 11) (by decide +kernel) rfl, ⟨by decide +kernel, by decide +kernel⟩, by decide, by decide +kernel⟩
theorem mv_X12_best : MeV mX12_best 2 10 := ⟨mc_X12_best, by unfold MeN; decide +kernel, gw (i := 1614) (by decide +kernel) rfl, gw (i := 1615) (by decide +kernel) rfl, rfl⟩
theorem mc_X12_way : MeC mX12_way := ⟨gw (i := 1620) (by decide +kernel) (by decide +kernel), gw (i := 11) (by decide +kernel) rfl, ⟨by decide +kernel, by decide +kernel⟩, by decide, by decide +kernel⟩
theorem mv_X12_way : MeV mX12_way 2 10 := ⟨mc_X12_way, by unfold MeN; decide +kernel, gw (i := 1618) (by decide +kernel) rfl, gw (i := 1619) (by decide +kernel) rfl, rfl⟩
theorem mc_X12_spread : MeC mX12_spread := ⟨gw (i := 1636) (by decide +kernel) (by decide +kernel), gw (i := 11) (by decide +kernel) rfl, ⟨by decide +kernel, by decide +kernel⟩, by decide, by decide +kernel⟩
theorem mv_X12_spread : MeV mX12_spread 1 10 := ⟨mc_X12_spread, by unfold MeN; decide +kernel, gw (i := 1634) (by decide +kernel) rfl, gw (i := 1635) (by decide +kernel) rfl, rfl⟩
theorem mc_X12_mass : MeC mX12_mass := ⟨gw (i := 1649) (by decide +kernel) (by decide +kernel), gw (i := 11) (by decide +kernel) rfl, ⟨by decide +kernel, by decide +kernel⟩, by decide, by decide +kernel⟩
theorem mv_X12_mass : MeV mX12_mass 2 10 := ⟨mc_X12_mass, by unfold MeN; decide +kernel, gw (i := 1647) (by decide +kernel) rfl, gw (i := 1648) (by decide +kernel) rfl, rfl⟩
theorem mc_X12_masses : MeC mX12_masses := ⟨gw (i := 1663) (by decide +kernel) (by decide +kernel), gw (i := 11) (by decide +kernel) rfl, ⟨by decide +kernel, by decide +kernel⟩, by decide, by decide +kernel⟩
theorem mv_X12_masses : MeV mX12_masses 1 10 := ⟨mc_X12_masses, by unfold MeN; decide +kernel, gw (i := 1661) (by decide +kernel) rfl, gw (i := 1662) (by decide +kernel) rfl, rfl⟩
theorem mc_X12_ending : MeC mX12_ending := ⟨gw (i := 1667) (by decide +kernel) (by decide +kernel), gw (i := 11) (by decide +kernel) rfl, ⟨by decide +kernel, by decide +kernel⟩, by decide, by decide +kernel⟩
theorem mv_X12_ending : MeV mX12_ending 2 10 := ⟨mc_X12_ending, by unfold MeN; decide +kernel, gw (i := 1665) (by decide +kernel) rfl, gw (i := 1666) (by decide +kernel) rfl, rfl⟩
theorem mc_X12_worth : MeC mX12_worth := ⟨gw (i := 1671) (by decide +kernel) (by decide +kernel), gw (i := 11) (by decide +kernel) rfl, ⟨by decide +kernel, by decide +kernel⟩, by decide, by decide +kernel⟩
theorem mv_X12_worth : MeV mX12_worth 0 10 := ⟨mc_X12_worth, by unfold MeN; decide +kernel, gw (i := 1669) (by decide +kernel) rfl, gw (i := 1670) (by decide +kernel) rfl, rfl⟩
theorem mc_X12_margin : MeC mX12_margin := ⟨gw (i := 1683) (by decide +kernel) (by decide +kernel), gw (i := 11) (by decide +kernel) rfl, ⟨by decide +kernel, by decide +kernel⟩, by decide, by decide +kernel⟩
theorem mv_X12_margin : MeV mX12_margin 0 10 := ⟨mc_X12_margin, by unfold MeN; decide +kernel, gw (i := 1681) (by decide +kernel) rfl, gw (i := 1682) (by decide +kernel) rfl, rfl⟩
theorem mc_X12_till : MeC mX12_till := ⟨gw (i := 1687) (by decide +kernel) (by decide +kernel), gw (i := 11) (by decide +kernel) rfl, ⟨by decide +kernel, by decide +kernel⟩, by decide, by decide +kernel⟩
theorem mv_X12_till : MeV mX12_till 0 10 := ⟨mc_X12_till, by unfold MeN; decide +kernel, gw (i := 1685) (by decide +kernel) rfl, gw (i := 1686) (by decide +kernel) rfl, rfl⟩
theorem mc_X12_edge : MeC mX12_edge := ⟨gw (i := 1691) (by decide +kernel) (by decide +kernel), gw (i := 11) (by decide +kernel) rfl, ⟨by decide +kernel, by decide +kernel⟩, by decide, by decide +kernel⟩
theorem mv_X12_edge : MeV mX12_edge 1 10 := ⟨mc_X12_edge, by unfold MeN; decide +kernel, gw (i := 1689) (by decide +kernel) rfl, gw (i := 1690) (by decide +kernel) rfl, rfl⟩
theorem mc_X12_saved : MeC mX12_saved := ⟨gw (i := 1695) (by decide +kernel) (by decide +kernel), gw (i := 11) (by decide +kernel) rfl, ⟨by decide +kernel, by decide +kernel⟩, by decide, by decide +kernel⟩
theorem mv_X12_saved : MeV mX12_saved 0 10 := ⟨mc_X12_saved, by unfold MeN; decide +kernel, gw (i := 1693) (by decide +kernel) rfl, gw (i := 1694) (by decide +kernel) rfl, rfl⟩
theorem mc_X12_fair : MeC mX12_fair := ⟨gw (i := 1699) (by decide +kernel) (by decide +kernel), gw (i := 11) (by decide +kernel) rfl, ⟨by decide +kernel, by decide +kernel⟩, by decide, by decide +kernel⟩
theorem mv_X12_fair : MeV mX12_fair 0 10 := ⟨mc_X12_fair, by unfold MeN; decide +kernel, gw (i := 1697) (by decide +kernel) rfl, gw (i := 1698) (by decide +kernel) rfl, rfl⟩
theorem mc_X12_sums : MeC mX12_sums := ⟨gw (i := 1703) (by decide +kernel) (by decide +kernel), gw (i := 11) (by decide +kernel) rfl, ⟨by decide +kernel, by decide +kernel⟩, by decide, by decide +kernel⟩
theorem mv_X12_sums : MeV mX12_sums 1 10 := ⟨mc_X12_sums, by unfold MeN; decide +kernel, gw (i := 1701) (by decide +kernel) rfl, gw (i := 1702) (by decide +kernel) rfl, rfl⟩
theorem mc_X12_shifted : MeC mX12_shifted := ⟨gw (i := 1707) (by decide +kernel) (by decide +kernel), gw (i := 11) (by decide +kernel) rfl, ⟨by decide +kernel, by decide +kernel⟩, by decide, by decide +kernel⟩
theorem mv_X12_shifted : MeV mX12_shifted 1 10 := ⟨mc_X12_shifted, by unfold MeN; decide +kernel, gw (i := 1705) (by decide +kernel) rfl, gw (i := 1706) (by decide +kernel) rfl, rfl⟩
theorem mc_X12_deed : MeC mX12_deed := ⟨gw (i := 1713) (by decide +kernel) (by decide +kernel), gw (i := 11) (by decide +kernel) rfl, ⟨by decide +kernel, by decide +kernel⟩, by decide, by decide +kernel⟩
theorem mv_X12_deed : MeV mX12_deed 2 10 := ⟨mc_X12_deed, by unfold MeN; decide +kernel, gw (i := 1711) (by decide +kernel) rfl, gw (i := 1712) (by decide +kernel) rfl, rfl⟩
theorem mc_X12_byPolicy : MeC mX12_byPolicy := ⟨gw (i := 1717) (by decide +kernel) (by decide +kernel), gw (i := 11) (by decide +kernel) rfl, ⟨by decide +kernel, by decide +kernel⟩, by decide, by decide +kernel⟩
theorem mv_X12_byPolicy : MeV mX12_byPolicy 2 10 := ⟨mc_X12_byPolicy, by unfold MeN; decide +kernel, gw (i := 1715) (by decide +kernel) rfl, gw (i := 1716) (by decide +kernel) rfl, rfl⟩
theorem mc_X12_regret : MeC mX12_regret := ⟨gw (i := 1721) (by decide +kernel) (by decide +kernel), gw (i := 11) (by decide +kernel) rfl, ⟨by decide +kernel, by decide +kernel⟩, by decide, by decide +kernel⟩
theorem mv_X12_regret : MeV mX12_regret 0 10 := ⟨mc_X12_regret, by unfold MeN; decide +kernel, gw (i := 1719) (by decide +kernel) rfl, gw (i := 1720) (by decide +kernel) rfl, rfl⟩
theorem mc_X12_strays : MeC mX12_strays := ⟨gw (i := 1725) (by decide +kernel) (by decide +kernel), gw (i := 11) (by decide +kernel) rfl, ⟨by decide +kernel, by decide +kernel⟩, by decide, by decide +kernel⟩
theorem mv_X12_strays : MeV mX12_strays 1 10 := ⟨mc_X12_strays, by unfold MeN; decide +kernel, gw (i := 1723) (by decide +kernel) rfl, gw (i := 1724) (by decide +kernel) rfl, rfl⟩
theorem mc_X12_mended : MeC mX12_mended := ⟨gw (i := 1729) (by decide +kernel) (by decide +kernel), gw (i := 11) (by decide +kernel) rfl, ⟨by decide +kernel, by decide +kernel⟩, by decide, by decide +kernel⟩
theorem mv_X12_mended : MeV mX12_mended 2 10 := ⟨mc_X12_mended, by unfold MeN; decide +kernel, gw (i := 1727) (by decide +kernel) rfl, gw (i := 1728) (by decide +kernel) rfl, rfl⟩
theorem mc_X12_rounds : MeC mX12_rounds := ⟨gw (i := 1733) (by decide +kernel) (by decide +kernel), gw (i := 11) (by decide +kernel) rfl, ⟨by decide +kernel, by decide +kernel⟩, by decide, by decide +kernel⟩
theorem mv_X12_rounds : MeV mX12_rounds 0 10 := ⟨mc_X12_rounds, by unfold MeN; decide +kernel, gw (i := 1731) (by decide +kernel) rfl, gw (i := 1732) (by decide +kernel) rfl, rfl⟩
theorem mc_X12_step : MeC mX12_step := ⟨gw (i := 1741) (by decide +kernel) (by decide +kernel), gw (i := 11) (by decide +kernel) rfl, ⟨by decide +kernel, by decide +kernel⟩, by decide, by decide +kernel⟩
theorem mv_X12_step : MeV mX12_step 3 10 := ⟨mc_X12_step, by unfold MeN; decide +kernel, gw (i := 1739) (by decide +kernel) rfl, gw (i := 1740) (by decide +kernel) rfl, rfl⟩
theorem mc_X12_run : MeC mX12_run := ⟨gw (i := 1749) (by decide +kernel) (by decide +kernel), gw (i := 11) (by decide +kernel) rfl, ⟨by decide +kernel, by decide +kernel⟩, by decide, by decide +kernel⟩
theorem mv_X12_run : MeV mX12_run 2 10 := ⟨mc_X12_run, by unfold MeN; decide +kernel, gw (i := 1747) (by decide +kernel) rfl, gw (i := 1748) (by decide +kernel) rfl, rfl⟩
theorem mc_X12_perform : MeC mX12_perform := ⟨gw (i := 1753) (by decide +kernel) (by decide +kernel), gw (i := 11) (by decide +kernel) rfl, ⟨by decide +kernel, by decide +kernel⟩, by decide, by decide +kernel⟩
theorem mv_X12_perform : MeV mX12_perform 1 10 := ⟨mc_X12_perform, by unfold MeN; decide +kernel, gw (i := 1751) (by decide +kernel) rfl, gw (i := 1752) (by decide +kernel) rfl, rfl⟩
theorem mc_X12_most : MeC mX12_most := ⟨gw (i := 1757) (by decide +kernel) (by decide +kernel), gw (i := 11) (by decide +kernel) rfl, ⟨by decide +kernel, by decide +kernel⟩, by decide, by decide +kernel⟩
theorem mv_X12_most : MeV mX12_most 1 10 := ⟨mc_X12_most, by unfold MeN; decide +kernel, gw (i := 1755) (by decide +kernel) rfl, gw (i := 1756) (by decide +kernel) rfl, rfl⟩
theorem mc_X12_count : MeC mX12_count := ⟨gw (i := 1769) (by decide +kernel) (by decide +kernel), gw (i := 11) (by decide +kernel) rfl, ⟨by decide +kernel, by decide +kernel⟩, by decide, by decide +kernel⟩
theorem mv_X12_count : MeV mX12_count 1 10 := ⟨mc_X12_count, by unfold MeN; decide +kernel, gw (i := 1767) (by decide +kernel) rfl, gw (i := 1768) (by decide +kernel) rfl, rfl⟩
