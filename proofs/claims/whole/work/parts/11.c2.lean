def TJ0_charAt_5068e : List In := [(0, 1, zt_aload 0), (1, 4, zt_callT mJ0_isLatin1_aae02 0), (4, 7, zt_if_eq 16), (7, 8, zt_aload 0), (8, 11, zt_strV), (11, 12, zt_iload 1), (12, 15, zt_callSF mJ1_charAt_3b067 2), (15, 16, zt_nret .char), (16, 17, zt_aload 0), (17, 20, zt_strV), (20, 21, zt_iload 1), (21, 24, zt_callSF mJ2_charAt_3b067 2), (24, 25, zt_nret .char)]
theorem TJ0_charAt_5068e_ok : ∀ i ∈ TJ0_charAt_5068e, Ent mJ0_charAt_5068e i := by
  refine List.forall_mem_cons.mpr ⟨ze_aload_n (k := 0) (by decide +kernel) rfl, ?_⟩
  refine List.forall_mem_cons.mpr ⟨ze_callT (idx := 492) (by decide +kernel) ml_J0_492 mt_J0_isLatin1_aae02, ?_⟩
  refine List.forall_mem_cons.mpr ⟨ze_if_eq (off := 12) (by decide +kernel) (by decide), ?_⟩
  refine List.forall_mem_cons.mpr ⟨ze_aload_n (k := 0) (by decide +kernel) rfl, ?_⟩
  refine List.forall_mem_cons.mpr ⟨ze_strV (idx := 9) (by decide +kernel) (gw (i := 1786) (by decide +kernel) rfl), ?_⟩
  refine List.forall_mem_cons.mpr ⟨ze_iload_n (k := 1) (by decide +kernel) rfl, ?_⟩
  refine List.forall_mem_cons.mpr ⟨ze_callSF (idx := 495) (by decide +kernel) ml_J0_495 ms_J1_charAt_3b067, ?_⟩
  refine List.forall_mem_cons.mpr ⟨ze_nret (by decide +kernel) rfl, ?_⟩
  refine List.forall_mem_cons.mpr ⟨ze_aload_n (k := 0) (by decide +kernel) rfl, ?_⟩
  refine List.forall_mem_cons.mpr ⟨ze_strV (idx := 9) (by decide +kernel) (gw (i := 1786) (by decide +kernel) rfl), ?_⟩
  refine List.forall_mem_cons.mpr ⟨ze_iload_n (k := 1) (by decide +kernel) rfl, ?_⟩
  refine List.forall_mem_cons.mpr ⟨ze_callSF (idx := 498) (by decide +kernel) ml_J0_498 ms_J2_charAt_3b067, ?_⟩
  refine List.forall_mem_cons.mpr ⟨ze_nret (by decide +kernel) rfl, ?_⟩
  exact fun _ h => absurd h List.not_mem_nil
theorem vJ0_charAt_5068e {l : Launch} {G : GT} {d : Nat} {av : List Value} {Q : Po} {σ : Mm} (cs : List (Nat × List Nat)) (k : Nat) (h : vc l G d mJ0_charAt_5068e TJ0_charAt_5068e Q cs k TJ0_charAt_5068e (lv_args 0 av) [] σ) (hlen : (lg_sl av).length ≤ mJ0_charAt_5068e.2.2.1 := by exact Nat.le_of_ble_eq_true rfl) : MW l G d mJ0_charAt_5068e av σ Q := mw_vc TJ0_charAt_5068e_ok mc_J0_charAt_5068e rfl hlen cs k rfl h
theorem wJ0_charAt_5068e {l : Launch} {G : GT} {d : Nat} {Q : Po} {pc : Nat} {lv : Lv} {st : List Value} {σ : Mm} (cs : List (Nat × List Nat)) (k : Nat) (h : vc l G d mJ0_charAt_5068e TJ0_charAt_5068e Q cs k (drp TJ0_charAt_5068e pc) lv st σ) (hpc : hdp (drp TJ0_charAt_5068e pc) = pc := by rfl) : Wp l G d mJ0_charAt_5068e pc lv st σ Q := wp_vc TJ0_charAt_5068e_ok cs k hpc h
def TJ0_checkIndex_df160 : List In := [(0, 1, zt_iload 0), (1, 2, zt_iload 1), (2, 5, zt_gfm), (5, 8, zt_callSF mJ3_checkIndex_8e157 3), (8, 9, zt_pop), (9, 10, zt_vret)]
theorem TJ0_checkIndex_df160_ok : ∀ i ∈ TJ0_checkIndex_df160, Ent mJ0_checkIndex_df160 i := by
  refine List.forall_mem_cons.mpr ⟨ze_iload_n (k := 0) (by decide +kernel) rfl, ?_⟩
  refine List.forall_mem_cons.mpr ⟨ze_iload_n (k := 1) (by decide +kernel) rfl, ?_⟩
  refine List.forall_mem_cons.mpr ⟨ze_gfm (idx := 1053) (by decide +kernel) (gw (i := 1291) (by decide +kernel) rfl), ?_⟩
  refine List.forall_mem_cons.mpr ⟨ze_callSF (idx := 1059) (by decide +kernel) ml_J0_1059 ms_J3_checkIndex_8e157, ?_⟩
  refine List.forall_mem_cons.mpr ⟨ze_pop (by decide +kernel), ?_⟩
  refine List.forall_mem_cons.mpr ⟨ze_vret (by decide +kernel) rfl, ?_⟩
  exact fun _ h => absurd h List.not_mem_nil
theorem vJ0_checkIndex_df160 {l : Launch} {G : GT} {d : Nat} {av : List Value} {Q : Po} {σ : Mm} (cs : List (Nat × List Nat)) (k : Nat) (h : vc l G d mJ0_checkIndex_df160 TJ0_checkIndex_df160 Q cs k TJ0_checkIndex_df160 (lv_args 0 av) [] σ) (hlen : (lg_sl av).length ≤ mJ0_checkIndex_df160.2.2.1 := by exact Nat.le_of_ble_eq_true rfl) : MW l G d mJ0_checkIndex_df160 av σ Q := mw_vc TJ0_checkIndex_df160_ok mc_J0_checkIndex_df160 rfl hlen cs k rfl h
theorem wJ0_checkIndex_df160 {l : Launch} {G : GT} {d : Nat} {Q : Po} {pc : Nat} {lv : Lv} {st : List Value} {σ : Mm} (cs : List (Nat × List Nat)) (k : Nat) (h : vc l G d mJ0_checkIndex_df160 TJ0_checkIndex_df160 Q cs k (drp TJ0_checkIndex_df160 pc) lv st σ) (hpc : hdp (drp TJ0_checkIndex_df160 pc) = pc := by rfl) : Wp l G d mJ0_checkIndex_df160 pc lv st σ Q := wp_vc TJ0_checkIndex_df160_ok cs k hpc h
def TJ0_coder_7d493 : List In := [(0, 3, zt_gcs), (3, 6, zt_if_eq 13), (6, 7, zt_aload 0), (7, 10, zt_strC), (10, 13, zt_goto 14), (13, 14, zt_ic 1), (14, 15, zt_nret .byte)]
theorem TJ0_coder_7d493_ok : ∀ i ∈ TJ0_coder_7d493, Ent mJ0_coder_7d493 i := by
  refine List.forall_mem_cons.mpr ⟨ze_gcs (idx := 38) (by decide +kernel) (gw (i := 1275) (by decide +kernel) rfl), ?_⟩
  refine List.forall_mem_cons.mpr ⟨ze_if_eq (off := 10) (by decide +kernel) (by decide), ?_⟩
  refine List.forall_mem_cons.mpr ⟨ze_aload_n (k := 0) (by decide +kernel) rfl, ?_⟩
  refine List.forall_mem_cons.mpr ⟨ze_strC (idx := 15) (by decide +kernel) (gw (i := 1787) (by decide +kernel) rfl), ?_⟩
  refine List.forall_mem_cons.mpr ⟨ze_goto (off := 4) (by decide +kernel) (by decide), ?_⟩
  refine List.forall_mem_cons.mpr ⟨ze_iconst (n := 1) (by decide +kernel) (by decide), ?_⟩
  refine List.forall_mem_cons.mpr ⟨ze_nret (by decide +kernel) rfl, ?_⟩
  exact fun _ h => absurd h List.not_mem_nil
theorem vJ0_coder_7d493 {l : Launch} {G : GT} {d : Nat} {av : List Value} {Q : Po} {σ : Mm} (cs : List (Nat × List Nat)) (k : Nat) (h : vc l G d mJ0_coder_7d493 TJ0_coder_7d493 Q cs k TJ0_coder_7d493 (lv_args 0 av) [] σ) (hlen : (lg_sl av).length ≤ mJ0_coder_7d493.2.2.1 := by exact Nat.le_of_ble_eq_true rfl) : MW l G d mJ0_coder_7d493 av σ Q := mw_vc TJ0_coder_7d493_ok mc_J0_coder_7d493 rfl hlen cs k rfl h
theorem wJ0_coder_7d493 {l : Launch} {G : GT} {d : Nat} {Q : Po} {pc : Nat} {lv : Lv} {st : List Value} {σ : Mm} (cs : List (Nat × List Nat)) (k : Nat) (h : vc l G d mJ0_coder_7d493 TJ0_coder_7d493 Q cs k (drp TJ0_coder_7d493 pc) lv st σ) (hpc : hdp (drp TJ0_coder_7d493 pc) = pc := by rfl) : Wp l G d mJ0_coder_7d493 pc lv st σ Q := wp_vc TJ0_coder_7d493_ok cs k hpc h
def TJ0_isLatin1_aae02 : List In := [(0, 3, zt_gcs), (3, 6, zt_if_eq 17), (6, 7, zt_aload 0), (7, 10, zt_strC), (10, 13, zt_if_ne 17), (13, 14, zt_ic 1), (14, 17, zt_goto 18), (17, 18, zt_ic 0), (18, 19, zt_zret)]
theorem TJ0_isLatin1_aae02_ok : ∀ i ∈ TJ0_isLatin1_aae02, Ent mJ0_isLatin1_aae02 i := by
  refine List.forall_mem_cons.mpr ⟨ze_gcs (idx := 38) (by decide +kernel) (gw (i := 1275) (by decide +kernel) rfl), ?_⟩
  refine List.forall_mem_cons.mpr ⟨ze_if_eq (off := 14) (by decide +kernel) (by decide), ?_⟩
  refine List.forall_mem_cons.mpr ⟨ze_aload_n (k := 0) (by decide +kernel) rfl, ?_⟩
  refine List.forall_mem_cons.mpr ⟨ze_strC (idx := 15) (by decide +kernel) (gw (i := 1787) (by decide +kernel) rfl), ?_⟩
  refine List.forall_mem_cons.mpr ⟨ze_if_ne (off := 7) (by decide +kernel) (by decide), ?_⟩
  refine List.forall_mem_cons.mpr ⟨ze_iconst (n := 1) (by decide +kernel) (by decide), ?_⟩
  refine List.forall_mem_cons.mpr ⟨ze_goto (off := 4) (by decide +kernel) (by decide), ?_⟩
  refine List.forall_mem_cons.mpr ⟨ze_iconst (n := 0) (by decide +kernel) (by decide), ?_⟩
  refine List.forall_mem_cons.mpr ⟨ze_zret (by decide +kernel) rfl, ?_⟩
  exact fun _ h => absurd h List.not_mem_nil
theorem vJ0_isLatin1_aae02 {l : Launch} {G : GT} {d : Nat} {av : List Value} {Q : Po} {σ : Mm} (cs : List (Nat × List Nat)) (k : Nat) (h : vc l G d mJ0_isLatin1_aae02 TJ0_isLatin1_aae02 Q cs k TJ0_isLatin1_aae02 (lv_args 0 av) [] σ) (hlen : (lg_sl av).length ≤ mJ0_isLatin1_aae02.2.2.1 := by exact Nat.le_of_ble_eq_true rfl) : MW l G d mJ0_isLatin1_aae02 av σ Q := mw_vc TJ0_isLatin1_aae02_ok mc_J0_isLatin1_aae02 rfl hlen cs k rfl h
theorem wJ0_isLatin1_aae02 {l : Launch} {G : GT} {d : Nat} {Q : Po} {pc : Nat} {lv : Lv} {st : List Value} {σ : Mm} (cs : List (Nat × List Nat)) (k : Nat) (h : vc l G d mJ0_isLatin1_aae02 TJ0_isLatin1_aae02 Q cs k (drp TJ0_isLatin1_aae02 pc) lv st σ) (hpc : hdp (drp TJ0_isLatin1_aae02 pc) = pc := by rfl) : Wp l G d mJ0_isLatin1_aae02 pc lv st σ Q := wp_vc TJ0_isLatin1_aae02_ok cs k hpc h
def TJ0_length_8abf5 : List In := [(0, 1, zt_aload 0), (1, 4, zt_strV), (4, 5, zt_slen), (5, 6, zt_aload 0), (6, 9, zt_callT mJ0_coder_7d493 0), (9, 10, zt_ishr), (10, 11, zt_iret)]
theorem TJ0_length_8abf5_ok : ∀ i ∈ TJ0_length_8abf5, Ent mJ0_length_8abf5 i := by
  refine List.forall_mem_cons.mpr ⟨ze_aload_n (k := 0) (by decide +kernel) rfl, ?_⟩
  refine List.forall_mem_cons.mpr ⟨ze_strV (idx := 9) (by decide +kernel) (gw (i := 1786) (by decide +kernel) rfl), ?_⟩
  refine List.forall_mem_cons.mpr ⟨ze_slen (by decide +kernel), ?_⟩
  refine List.forall_mem_cons.mpr ⟨ze_aload_n (k := 0) (by decide +kernel) rfl, ?_⟩
  refine List.forall_mem_cons.mpr ⟨ze_callT (idx := 335) (by decide +kernel) ml_J0_335 mt_J0_coder_7d493, ?_⟩
  refine List.forall_mem_cons.mpr ⟨ze_ishr (by decide +kernel), ?_⟩
  refine List.forall_mem_cons.mpr ⟨ze_iret (by decide +kernel) rfl, ?_⟩
  exact fun _ h => absurd h List.not_mem_nil
theorem vJ0_length_8abf5 {l : Launch} {G : GT} {d : Nat} {av : List Value} {Q : Po} {σ : Mm} (cs : List (Nat × List Nat)) (k : Nat) (h : vc l G d mJ0_length_8abf5 TJ0_length_8abf5 Q cs k TJ0_length_8abf5 (lv_args 0 av) [] σ) (hlen : (lg_sl av).length ≤ mJ0_length_8abf5.2.2.1 := by exact Nat.le_of_ble_eq_true rfl) : MW l G d mJ0_length_8abf5 av σ Q := mw_vc TJ0_length_8abf5_ok mc_J0_length_8abf5 rfl hlen cs k rfl h
theorem wJ0_length_8abf5 {l : Launch} {G : GT} {d : Nat} {Q : Po} {pc : Nat} {lv : Lv} {st : List Value} {σ : Mm} (cs : List (Nat × List Nat)) (k : Nat) (h : vc l G d mJ0_length_8abf5 TJ0_length_8abf5 Q cs k (drp TJ0_length_8abf5 pc) lv st σ) (hpc : hdp (drp TJ0_length_8abf5 pc) = pc := by rfl) : Wp l G d mJ0_length_8abf5 pc lv st σ Q := wp_vc TJ0_length_8abf5_ok cs k hpc h
def TJ1_charAt_3b067 : List In := [(0, 1, zt_iload 1), (1, 2, zt_aload 0), (2, 3, zt_slen), (3, 6, zt_callSF mJ0_checkIndex_df160 2), (6, 7, zt_aload 0), (7, 8, zt_iload 1), (8, 9, zt_sbld), (9, 12, zt_ic 255), (12, 13, zt_iand), (13, 14, zt_i2c), (14, 15, zt_nret .char)]
theorem TJ1_charAt_3b067_ok : ∀ i ∈ TJ1_charAt_3b067, Ent mJ1_charAt_3b067 i := by
  refine List.forall_mem_cons.mpr ⟨ze_iload_n (k := 1) (by decide +kernel) rfl, ?_⟩
  refine List.forall_mem_cons.mpr ⟨ze_aload_n (k := 0) (by decide +kernel) rfl, ?_⟩
  refine List.forall_mem_cons.mpr ⟨ze_slen (by decide +kernel), ?_⟩
  refine List.forall_mem_cons.mpr ⟨ze_callSF (idx := 9) (by decide +kernel) ml_J1_9 ms_J0_checkIndex_df160, ?_⟩
  refine List.forall_mem_cons.mpr ⟨ze_aload_n (k := 0) (by decide +kernel) rfl, ?_⟩
  refine List.forall_mem_cons.mpr ⟨ze_iload_n (k := 1) (by decide +kernel) rfl, ?_⟩
  refine List.forall_mem_cons.mpr ⟨ze_sbald (by decide +kernel), ?_⟩
  refine List.forall_mem_cons.mpr ⟨ze_sipush (n := 255) (by decide +kernel) (by decide), ?_⟩
  refine List.forall_mem_cons.mpr ⟨ze_iand (by decide +kernel), ?_⟩
  refine List.forall_mem_cons.mpr ⟨ze_i2c (by decide +kernel), ?_⟩
  refine List.forall_mem_cons.mpr ⟨ze_nret (by decide +kernel) rfl, ?_⟩
  exact fun _ h => absurd h List.not_mem_nil
theorem vJ1_charAt_3b067 {l : Launch} {G : GT} {d : Nat} {av : List Value} {Q : Po} {σ : Mm} (cs : List (Nat × List Nat)) (k : Nat) (h : vc l G d mJ1_charAt_3b067 TJ1_charAt_3b067 Q cs k TJ1_charAt_3b067 (lv_args 0 av) [] σ) (hlen : (lg_sl av).length ≤ mJ1_charAt_3b067.2.2.1 := by exact Nat.le_of_ble_eq_true rfl) : MW l G d mJ1_charAt_3b067 av σ Q := mw_vc TJ1_charAt_3b067_ok mc_J1_charAt_3b067 rfl hlen cs k rfl h
theorem wJ1_charAt_3b067 {l : Launch} {G : GT} {d : Nat} {Q : Po} {pc : Nat} {lv : Lv} {st : List Value} {σ : Mm} (cs : List (Nat × List Nat)) (k : Nat) (h : vc l G d mJ1_charAt_3b067 TJ1_charAt_3b067 Q cs k (drp TJ1_charAt_3b067 pc) lv st σ) (hpc : hdp (drp TJ1_charAt_3b067 pc) = pc := by rfl) : Wp l G d mJ1_charAt_3b067 pc lv st σ Q := wp_vc TJ1_charAt_3b067_ok cs k hpc h
def TJ7_fill_53178 : List In := [(0, 1, zt_ic 0), (1, 2, zt_istoreF 2), (2, 3, zt_aload 0), (3, 4, zt_alen), (4, 5, zt_istoreF 3), (5, 6, zt_iload 2), (6, 7, zt_iload 3), (7, 10, zt_icmp_ge 20), (10, 11, zt_aload 0), (11, 12, zt_iload 2), (12, 13, zt_iload 1), (13, 14, zt_iastoreF), (14, 17, zt_iincF 2 1), (17, 20, zt_goto 5), (20, 21, zt_vret)]
theorem TJ7_fill_53178_ok : ∀ i ∈ TJ7_fill_53178, Ent mJ7_fill_53178 i := by
  refine List.forall_mem_cons.mpr ⟨ze_iconst (n := 0) (by decide +kernel) (by decide), ?_⟩
  refine List.forall_mem_cons.mpr ⟨ze_istoreF_n (k := 2) (by decide +kernel) rfl (by decide), ?_⟩
  refine List.forall_mem_cons.mpr ⟨ze_aload_n (k := 0) (by decide +kernel) rfl, ?_⟩
  refine List.forall_mem_cons.mpr ⟨ze_alen (by decide +kernel), ?_⟩
  refine List.forall_mem_cons.mpr ⟨ze_istoreF_n (k := 3) (by decide +kernel) rfl (by decide), ?_⟩
  refine List.forall_mem_cons.mpr ⟨ze_iload_n (k := 2) (by decide +kernel) rfl, ?_⟩
  refine List.forall_mem_cons.mpr ⟨ze_iload_n (k := 3) (by decide +kernel) rfl, ?_⟩
  refine List.forall_mem_cons.mpr ⟨ze_icmp_ge (off := 13) (by decide +kernel) (by decide), ?_⟩
  refine List.forall_mem_cons.mpr ⟨ze_aload_n (k := 0) (by decide +kernel) rfl, ?_⟩
  refine List.forall_mem_cons.mpr ⟨ze_iload_n (k := 2) (by decide +kernel) rfl, ?_⟩
  refine List.forall_mem_cons.mpr ⟨ze_iload_n (k := 1) (by decide +kernel) rfl, ?_⟩
  refine List.forall_mem_cons.mpr ⟨ze_iastoreF (by decide +kernel), ?_⟩
  refine List.forall_mem_cons.mpr ⟨ze_iincF (n := 1) (by decide +kernel) (by decide) (by decide), ?_⟩
  refine List.forall_mem_cons.mpr ⟨ze_goto (off := -12) (by decide +kernel) (by decide), ?_⟩
  refine List.forall_mem_cons.mpr ⟨ze_vret (by decide +kernel) rfl, ?_⟩
  exact fun _ h => absurd h List.not_mem_nil
theorem vJ7_fill_53178 {l : Launch} {G : GT} {d : Nat} {av : List Value} {Q : Po} {σ : Mm} (cs : List (Nat × List Nat)) (k : Nat) (h : vc l G d mJ7_fill_53178 TJ7_fill_53178 Q cs k TJ7_fill_53178 (lv_args 0 av) [] σ) (hlen : (lg_sl av).length ≤ mJ7_fill_53178.2.2.1 := by exact Nat.le_of_ble_eq_true rfl) : MW l G d mJ7_fill_53178 av σ Q := mw_vc TJ7_fill_53178_ok mc_J7_fill_53178 rfl hlen cs k rfl h
theorem wJ7_fill_53178 {l : Launch} {G : GT} {d : Nat} {Q : Po} {pc : Nat} {lv : Lv} {st : List Value} {σ : Mm} (cs : List (Nat × List Nat)) (k : Nat) (h : vc l G d mJ7_fill_53178 TJ7_fill_53178 Q cs k (drp TJ7_fill_53178 pc) lv st σ) (hpc : hdp (drp TJ7_fill_53178 pc) = pc := by rfl) : Wp l G d mJ7_fill_53178 pc lv st σ Q := wp_vc TJ7_fill_53178_ok cs k hpc h
def TJ7_fill_fda19 : List In := [(0, 1, zt_aload 0), (1, 2, zt_alen), (2, 3, zt_iload 1), (3, 4, zt_iload 2), (4, 7, zt_callSF mJ7_rangeCheck_23922 3), (7, 8, zt_iload 1), (8, 10, zt_istoreF 4), (10, 12, zt_iload 4), (12, 13, zt_iload 2), (13, 16, zt_icmp_ge 27), (16, 17, zt_aload 0), (17, 19, zt_iload 4), (19, 20, zt_iload 3), (20, 21, zt_iastoreF), (21, 24, zt_iincF 4 1), (24, 27, zt_goto 10), (27, 28, zt_vret)]
theorem TJ7_fill_fda19_ok : ∀ i ∈ TJ7_fill_fda19, Ent mJ7_fill_fda19 i := by
  refine List.forall_mem_cons.mpr ⟨ze_aload_n (k := 0) (by decide +kernel) rfl, ?_⟩
  refine List.forall_mem_cons.mpr ⟨ze_alen (by decide +kernel), ?_⟩
  refine List.forall_mem_cons.mpr ⟨ze_iload_n (k := 1) (by decide +kernel) rfl, ?_⟩
  refine List.forall_mem_cons.mpr ⟨ze_iload_n (k := 2) (by decide +kernel) rfl, ?_⟩
  refine List.forall_mem_cons.mpr ⟨ze_callSF (idx := 13) (by decide +kernel) ml_J7_13 ms_J7_rangeCheck_23922, ?_⟩
  refine List.forall_mem_cons.mpr ⟨ze_iload_n (k := 1) (by decide +kernel) rfl, ?_⟩
  refine List.forall_mem_cons.mpr ⟨ze_istoreF (by decide +kernel) (by decide), ?_⟩
  refine List.forall_mem_cons.mpr ⟨ze_iload (by decide +kernel), ?_⟩
  refine List.forall_mem_cons.mpr ⟨ze_iload_n (k := 2) (by decide +kernel) rfl, ?_⟩
  refine List.forall_mem_cons.mpr ⟨ze_icmp_ge (off := 14) (by decide +kernel) (by decide), ?_⟩
  refine List.forall_mem_cons.mpr ⟨ze_aload_n (k := 0) (by decide +kernel) rfl, ?_⟩
  refine List.forall_mem_cons.mpr ⟨ze_iload (by decide +kernel), ?_⟩
  refine List.forall_mem_cons.mpr ⟨ze_iload_n (k := 3) (by decide +kernel) rfl, ?_⟩
  refine List.forall_mem_cons.mpr ⟨ze_iastoreF (by decide +kernel), ?_⟩
  refine List.forall_mem_cons.mpr ⟨ze_iincF (n := 1) (by decide +kernel) (by decide) (by decide), ?_⟩
  refine List.forall_mem_cons.mpr ⟨ze_goto (off := -14) (by decide +kernel) (by decide), ?_⟩
  refine List.forall_mem_cons.mpr ⟨ze_vret (by decide +kernel) rfl, ?_⟩
  exact fun _ h => absurd h List.not_mem_nil
theorem vJ7_fill_fda19 {l : Launch} {G : GT} {d : Nat} {av : List Value} {Q : Po} {σ : Mm} (cs : List (Nat × List Nat)) (k : Nat) (h : vc l G d mJ7_fill_fda19 TJ7_fill_fda19 Q cs k TJ7_fill_fda19 (lv_args 0 av) [] σ) (hlen : (lg_sl av).length ≤ mJ7_fill_fda19.2.2.1 := by exact Nat.le_of_ble_eq_true rfl) : MW l G d mJ7_fill_fda19 av σ Q := mw_vc TJ7_fill_fda19_ok mc_J7_fill_fda19 rfl hlen cs k rfl h
theorem wJ7_fill_fda19 {l : Launch} {G : GT} {d : Nat} {Q : Po} {pc : Nat} {lv : Lv} {st : List Value} {σ : Mm} (cs : List (Nat × List Nat)) (k : Nat) (h : vc l G d mJ7_fill_fda19 TJ7_fill_fda19 Q cs k (drp TJ7_fill_fda19 pc) lv st σ) (hpc : hdp (drp TJ7_fill_fda19 pc) = pc := by rfl) : Wp l G d mJ7_fill_fda19 pc lv st σ Q := wp_vc TJ7_fill_fda19_ok cs k hpc h
def TJ7_fill_d0a16 : List In := [(0, 1, zt_ic 0), (1, 2, zt_istoreF 3), (2, 3, zt_aload 0), (3, 4, zt_alen), (4, 6, zt_istoreF 4), (6, 7, zt_iload 3), (7, 9, zt_iload 4), (9, 12, zt_icmp_ge 22), (12, 13, zt_aload 0), (13, 14, zt_iload 3), (14, 15, zt_lload 1), (15, 16, zt_lastoreF), (16, 19, zt_iincF 3 1), (19, 22, zt_goto 6), (22, 23, zt_vret)]
theorem TJ7_fill_d0a16_ok : ∀ i ∈ TJ7_fill_d0a16, Ent mJ7_fill_d0a16 i := by
  refine List.forall_mem_cons.mpr ⟨ze_iconst (n := 0) (by decide +kernel) (by decide), ?_⟩
  refine List.forall_mem_cons.mpr ⟨ze_istoreF_n (k := 3) (by decide +kernel) rfl (by decide), ?_⟩
  refine List.forall_mem_cons.mpr ⟨ze_aload_n (k := 0) (by decide +kernel) rfl, ?_⟩
  refine List.forall_mem_cons.mpr ⟨ze_alen (by decide +kernel), ?_⟩
  refine List.forall_mem_cons.mpr ⟨ze_istoreF (by decide +kernel) (by decide), ?_⟩
  refine List.forall_mem_cons.mpr ⟨ze_iload_n (k := 3) (by decide +kernel) rfl, ?_⟩
  refine List.forall_mem_cons.mpr ⟨ze_iload (by decide +kernel), ?_⟩
  refine List.forall_mem_cons.mpr ⟨ze_icmp_ge (off := 13) (by decide +kernel) (by decide), ?_⟩
  refine List.forall_mem_cons.mpr ⟨ze_aload_n (k := 0) (by decide +kernel) rfl, ?_⟩
  refine List.forall_mem_cons.mpr ⟨ze_iload_n (k := 3) (by decide +kernel) rfl, ?_⟩
  refine List.forall_mem_cons.mpr ⟨ze_lload_n (k := 1) (by decide +kernel) rfl, ?_⟩
  refine List.forall_mem_cons.mpr ⟨ze_lastoreF (by decide +kernel), ?_⟩
  refine List.forall_mem_cons.mpr ⟨ze_iincF (n := 1) (by decide +kernel) (by decide) (by decide), ?_⟩
  refine List.forall_mem_cons.mpr ⟨ze_goto (off := -13) (by decide +kernel) (by decide), ?_⟩
  refine List.forall_mem_cons.mpr ⟨ze_vret (by decide +kernel) rfl, ?_⟩
  exact fun _ h => absurd h List.not_mem_nil
theorem vJ7_fill_d0a16 {l : Launch} {G : GT} {d : Nat} {av : List Value} {Q : Po} {σ : Mm} (cs : List (Nat × List Nat)) (k : Nat) (h : vc l G d mJ7_fill_d0a16 TJ7_fill_d0a16 Q cs k TJ7_fill_d0a16 (lv_args 0 av) [] σ) (hlen : (lg_sl av).length ≤ mJ7_fill_d0a16.2.2.1 := by exact Nat.le_of_ble_eq_true rfl) : MW l G d mJ7_fill_d0a16 av σ Q := mw_vc TJ7_fill_d0a16_ok mc_J7_fill_d0a16 rfl hlen cs k rfl h
theorem wJ7_fill_d0a16 {l : Launch} {G : GT} {d : Nat} {Q : Po} {pc : Nat} {lv : Lv} {st : List Value} {σ : Mm} (cs : List (Nat × List Nat)) (k : Nat) (h : vc l G d mJ7_fill_d0a16 TJ7_fill_d0a16 Q cs k (drp TJ7_fill_d0a16 pc) lv st σ) (hpc : hdp (drp TJ7_fill_d0a16 pc) = pc := by rfl) : Wp l G d mJ7_fill_d0a16 pc lv st σ Q := wp_vc TJ7_fill_d0a16_ok cs k hpc h
def TJ7_rangeCheck_23922 : List In := [(0, 1, zt_iload 1), (1, 2, zt_iload 2), (2, 5, zt_icmp_le 46), (5, 8, zt_no), (8, 9, zt_dup), (9, 12, zt_no), (12, 13, zt_dup), (13, 16, zt_no), (16, 18, zt_no), (18, 21, zt_no), (21, 22, zt_iload 1), (22, 25, zt_no), (25, 27, zt_no), (27, 30, zt_no), (30, 31, zt_iload 2), (31, 34, zt_no), (34, 36, zt_no), (36, 39, zt_no), (39, 42, zt_no), (42, 45, zt_no), (45, 46, zt_no), (46, 47, zt_iload 1), (47, 50, zt_if_ge 59), (50, 53, zt_no), (53, 54, zt_dup), (54, 55, zt_iload 1), (55, 58, zt_no), (58, 59, zt_no), (59, 60, zt_iload 2), (60, 61, zt_iload 0), (61, 64, zt_icmp_le 73), (64, 67, zt_no), (67, 68, zt_dup), (68, 69, zt_iload 2), (69, 72, zt_no), (72, 73, zt_no), (73, 74, zt_vret)]
theorem TJ7_rangeCheck_23922_ok : ∀ i ∈ TJ7_rangeCheck_23922, Ent mJ7_rangeCheck_23922 i := by
  refine List.forall_mem_cons.mpr ⟨ze_iload_n (k := 1) (by decide +kernel) rfl, ?_⟩
  refine List.forall_mem_cons.mpr ⟨ze_iload_n (k := 2) (by decide +kernel) rfl, ?_⟩
  refine List.forall_mem_cons.mpr ⟨ze_icmp_le (off := 44) (by decide +kernel) (by decide), ?_⟩
  refine List.forall_mem_cons.mpr ⟨ze_no, ?_⟩
  refine List.forall_mem_cons.mpr ⟨ze_dup (by decide +kernel), ?_⟩
  refine List.forall_mem_cons.mpr ⟨ze_no, ?_⟩
  refine List.forall_mem_cons.mpr ⟨ze_dup (by decide +kernel), ?_⟩
  refine List.forall_mem_cons.mpr ⟨ze_no, ?_⟩
  refine List.forall_mem_cons.mpr ⟨ze_no, ?_⟩
  refine List.forall_mem_cons.mpr ⟨ze_no, ?_⟩
  refine List.forall_mem_cons.mpr ⟨ze_iload_n (k := 1) (by decide +kernel) rfl, ?_⟩
  refine List.forall_mem_cons.mpr ⟨ze_no, ?_⟩
  refine List.forall_mem_cons.mpr ⟨ze_no, ?_⟩
  refine List.forall_mem_cons.mpr ⟨ze_no, ?_⟩
  refine List.forall_mem_cons.mpr ⟨ze_iload_n (k := 2) (by decide +kernel) rfl, ?_⟩
  refine List.forall_mem_cons.mpr ⟨ze_no, ?_⟩
  refine List.forall_mem_cons.mpr ⟨ze_no, ?_⟩
  refine List.forall_mem_cons.mpr ⟨ze_no, ?_⟩
  refine List.forall_mem_cons.mpr ⟨ze_no, ?_⟩
  refine List.forall_mem_cons.mpr ⟨ze_no, ?_⟩
  refine List.forall_mem_cons.mpr ⟨ze_no, ?_⟩
  refine List.forall_mem_cons.mpr ⟨ze_iload_n (k := 1) (by decide +kernel) rfl, ?_⟩
  refine List.forall_mem_cons.mpr ⟨ze_if_ge (off := 12) (by decide +kernel) (by decide), ?_⟩
  refine List.forall_mem_cons.mpr ⟨ze_no, ?_⟩
  refine List.forall_mem_cons.mpr ⟨ze_dup (by decide +kernel), ?_⟩
  refine List.forall_mem_cons.mpr ⟨ze_iload_n (k := 1) (by decide +kernel) rfl, ?_⟩
  refine List.forall_mem_cons.mpr ⟨ze_no, ?_⟩
  refine List.forall_mem_cons.mpr ⟨ze_no, ?_⟩
  refine List.forall_mem_cons.mpr ⟨ze_iload_n (k := 2) (by decide +kernel) rfl, ?_⟩
  refine List.forall_mem_cons.mpr ⟨ze_iload_n (k := 0) (by decide +kernel) rfl, ?_⟩
  refine List.forall_mem_cons.mpr ⟨ze_icmp_le (off := 12) (by decide +kernel) (by decide), ?_⟩
  refine List.forall_mem_cons.mpr ⟨ze_no, ?_⟩
  refine List.forall_mem_cons.mpr ⟨ze_dup (by decide +kernel), ?_⟩
  refine List.forall_mem_cons.mpr ⟨ze_iload_n (k := 2) (by decide +kernel) rfl, ?_⟩
  refine List.forall_mem_cons.mpr ⟨ze_no, ?_⟩
  refine List.forall_mem_cons.mpr ⟨ze_no, ?_⟩
  refine List.forall_mem_cons.mpr ⟨ze_vret (by decide +kernel) rfl, ?_⟩
  exact fun _ h => absurd h List.not_mem_nil
theorem vJ7_rangeCheck_23922 {l : Launch} {G : GT} {d : Nat} {av : List Value} {Q : Po} {σ : Mm} (cs : List (Nat × List Nat)) (k : Nat) (h : vc l G d mJ7_rangeCheck_23922 TJ7_rangeCheck_23922 Q cs k TJ7_rangeCheck_23922 (lv_args 0 av) [] σ) (hlen : (lg_sl av).length ≤ mJ7_rangeCheck_23922.2.2.1 := by exact Nat.le_of_ble_eq_true rfl) : MW l G d mJ7_rangeCheck_23922 av σ Q := mw_vc TJ7_rangeCheck_23922_ok mc_J7_rangeCheck_23922 rfl hlen cs k rfl h
theorem wJ7_rangeCheck_23922 {l : Launch} {G : GT} {d : Nat} {Q : Po} {pc : Nat} {lv : Lv} {st : List Value} {σ : Mm} (cs : List (Nat × List Nat)) (k : Nat) (h : vc l G d mJ7_rangeCheck_23922 TJ7_rangeCheck_23922 Q cs k (drp TJ7_rangeCheck_23922 pc) lv st σ) (hpc : hdp (drp TJ7_rangeCheck_23922 pc) = pc := by rfl) : Wp l G d mJ7_rangeCheck_23922 pc lv st σ Q := wp_vc TJ7_rangeCheck_23922_ok cs k hpc h
