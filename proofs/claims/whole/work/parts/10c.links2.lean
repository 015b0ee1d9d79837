theorem ml_J0_335 : Cond.methodLink RJ0 335 yJ0_coder_7d493 ∈ gW := gw (i := 1271) (by decide +kernel) rfl
theorem ml_J0_492 : Cond.methodLink RJ0 492 yJ0_isLatin1_aae02 ∈ gW := gw (i := 1281) (by decide +kernel) rfl
theorem ml_J0_495 : Cond.methodLink RJ0 495 yJ1_charAt_3b067 ∈ gW := gw (i := 1285) (by decide +kernel) rfl
theorem ml_J0_498 : Cond.methodLink RJ0 498 yJ2_charAt_3b067 ∈ gW := gw (i := 1296) (by decide +kernel) rfl
theorem ml_J0_1059 : Cond.methodLink RJ0 1059 yJ3_checkIndex_8e157 ∈ gW := gw (i := 1293) (by decide +kernel) rfl
theorem ml_J1_9 : Cond.methodLink RJ1 9 yJ0_checkIndex_df160 ∈ gW := gw (i := 1288) (by decide +kernel) rfl
theorem mc_J0_isLatin1_aae02 : MeC mJ0_isLatin1_aae02 := ⟨gw (i := 1284) (by decide +kernel) (by decide +kernel), gw (i := 14) (by decide +kernel) rfl, ⟨by decide +kernel, by decide +kernel⟩, by decide, by decide +kernel⟩
theorem mc_J1_charAt_3b067 : MeC mJ1_charAt_3b067 := ⟨gw (i := 1287) (by decide +kernel) (by decide +kernel), gw (i := 15) (by decide +kernel) rfl, ⟨by decide +kernel, by decide +kernel⟩, by decide, by decide +kernel⟩
theorem ms_J1_charAt_3b067 : MeS mJ1_charAt_3b067 2 := ⟨mc_J1_charAt_3b067, by unfold MeN; decide +kernel, gw (i := 1286) (by decide +kernel) rfl⟩
theorem mc_J2_charAt_3b067 : MeC mJ2_charAt_3b067 := ⟨gw (i := 1298) (by decide +kernel) (by decide +kernel), gw (i := 17) (by decide +kernel) rfl, ⟨by decide +kernel, by decide +kernel⟩, by decide, by decide +kernel⟩
theorem ms_J2_charAt_3b067 : MeS mJ2_charAt_3b067 2 := ⟨mc_J2_charAt_3b067, by unfold MeN; decide +kernel, gw (i := 1297) (by decide +kernel) rfl⟩
theorem mc_J3_checkIndex_8e157 : MeC mJ3_checkIndex_8e157 := ⟨gw (i := 1295) (by decide +kernel) (by decide +kernel), gw (i := 16) (by decide +kernel) rfl, ⟨by decide +kernel, by decide +kernel⟩, by decide, by decide +kernel⟩
theorem ms_J3_checkIndex_8e157 : MeS mJ3_checkIndex_8e157 3 := ⟨mc_J3_checkIndex_8e157, by unfold MeN; decide +kernel, gw (i := 1294) (by decide +kernel) rfl⟩
theorem mc_J0_coder_7d493 : MeC mJ0_coder_7d493 := ⟨gw (i := 1274) (by decide +kernel) (by decide +kernel), gw (i := 14) (by decide +kernel) rfl, ⟨by decide +kernel, by decide +kernel⟩, by decide, by decide +kernel⟩
theorem mc_J0_checkIndex_df160 : MeC mJ0_checkIndex_df160 := ⟨gw (i := 1290) (by decide +kernel) (by decide +kernel), gw (i := 14) (by decide +kernel) rfl, ⟨by decide +kernel, by decide +kernel⟩, by decide, by decide +kernel⟩
theorem ms_J0_checkIndex_df160 : MeS mJ0_checkIndex_df160 2 := ⟨mc_J0_checkIndex_df160, by unfold MeN; decide +kernel, gw (i := 1289) (by decide +kernel) rfl⟩
theorem mc_X11_rate : MeC mX11_rate := ⟨gw (i := 1000) (by decide +kernel) (by decide +kernel), gw (i := 1) (by decide +kernel) rfl, ⟨by decide +kernel, by decide +kernel⟩, by decide, by decide +kernel⟩
theorem mv_X11_rate : MeV mX11_rate 2 9 := ⟨mc_X11_rate, by unfold MeN; decide +kernel, gw (i := 998) (by decide +kernel) rfl, gw (i := 999) (by decide +kernel) rfl, rfl⟩
theorem mc_X11_status : MeC mX11_status := ⟨gw (i := 742) (by decide +kernel) (by decide +kernel), gw (i := 1) (by decide +kernel) rfl, ⟨by decide +kernel, by decide +kernel⟩, by decide, by decide +kernel⟩
theorem mv_X11_status : MeV mX11_status 1 9 := ⟨mc_X11_status, by unfold MeN; decide +kernel, gw (i := 740) (by decide +kernel) rfl, gw (i := 741) (by decide +kernel) rfl, rfl⟩
theorem mt_J0_length_8abf5 : MeT mJ0_length_8abf5 0 := ⟨mc_J0_length_8abf5, by unfold MeN; decide +kernel, gw (i := 1268) (by decide +kernel) rfl, gw (i := 1269) (by decide +kernel) rfl, by decide +kernel⟩
theorem mt_J0_charAt_5068e : MeT mJ0_charAt_5068e 1 := ⟨mc_J0_charAt_5068e, by unfold MeN; decide +kernel, gw (i := 1278) (by decide +kernel) rfl, gw (i := 1279) (by decide +kernel) rfl, by decide +kernel⟩
theorem mt_J0_coder_7d493 : MeT mJ0_coder_7d493 0 := ⟨mc_J0_coder_7d493, by unfold MeN; decide +kernel, gw (i := 1272) (by decide +kernel) rfl, gw (i := 1273) (by decide +kernel) rfl, by decide +kernel⟩
theorem mt_J0_isLatin1_aae02 : MeT mJ0_isLatin1_aae02 0 := ⟨mc_J0_isLatin1_aae02, by unfold MeN; decide +kernel, gw (i := 1282) (by decide +kernel) rfl, gw (i := 1283) (by decide +kernel) rfl, by decide +kernel⟩
