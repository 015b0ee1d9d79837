-- signs of texts: the reference's spotOf
def TJ3_checkIndex_8e157 : List In := [(0, 1, zt_iload 0), (1, 4, zt_if_lt 9), (4, 5, zt_iload 0), (5, 6, zt_iload 1), (6, 9, zt_icmp_lt 16), (9, 10, zt_no), (10, 11, zt_iload 0), (11, 12, zt_iload 1), (12, 15, zt_no), (15, 16, zt_no), (16, 17, zt_iload 0), (17, 18, zt_iret)]
theorem TJ3_checkIndex_8e157_ok : ∀ i ∈ TJ3_checkIndex_8e157, Ent mJ3_checkIndex_8e157 i := by
  refine List.forall_mem_cons.mpr ⟨ze_iload_n (k := 0) (by decide +kernel) rfl, ?_⟩
  refine List.forall_mem_cons.mpr ⟨ze_if_lt (off := 8) (by decide +kernel) (by decide), ?_⟩
  refine List.forall_mem_cons.mpr ⟨ze_iload_n (k := 0) (by decide +kernel) rfl, ?_⟩
  refine List.forall_mem_cons.mpr ⟨ze_iload_n (k := 1) (by decide +kernel) rfl, ?_⟩
  refine List.forall_mem_cons.mpr ⟨ze_icmp_lt (off := 10) (by decide +kernel) (by decide), ?_⟩
  refine List.forall_mem_cons.mpr ⟨ze_no, ?_⟩
  refine List.forall_mem_cons.mpr ⟨ze_iload_n (k := 0) (by decide +kernel) rfl, ?_⟩
  refine List.forall_mem_cons.mpr ⟨ze_iload_n (k := 1) (by decide +kernel) rfl, ?_⟩
  refine List.forall_mem_cons.mpr ⟨ze_no, ?_⟩
  refine List.forall_mem_cons.mpr ⟨ze_no, ?_⟩
  refine List.forall_mem_cons.mpr ⟨ze_iload_n (k := 0) (by decide +kernel) rfl, ?_⟩
  refine List.forall_mem_cons.mpr ⟨ze_iret (by decide +kernel) rfl, ?_⟩
  exact fun _ h => absurd h List.not_mem_nil
theorem vJ3_checkIndex_8e157 {l : Launch} {G : GT} {d : Nat} {av : List Value} {Q : Po} {σ : Mm} (cs : List (Nat × List Nat)) (k : Nat) (h : vc l G d mJ3_checkIndex_8e157 TJ3_checkIndex_8e157 Q cs k TJ3_checkIndex_8e157 (lv_args 0 av) [] σ) (hlen : (lg_sl av).length ≤ mJ3_checkIndex_8e157.2.2.1 := by exact Nat.le_of_ble_eq_true rfl) : MW l G d mJ3_checkIndex_8e157 av σ Q := mw_vc TJ3_checkIndex_8e157_ok mc_J3_checkIndex_8e157 rfl hlen cs k rfl h
section St
variable {l : Launch} {G : GT} {d : Nat} {σ : Mm} {Q : Po}
theorem s_check3 {x y : Int32} {v : Value} (hv : v = .null ∨ v = .ref 230) (i n : Int) (hi : 0 ≤ i ∧ i < n) (hn : n < 2147483648) (hq : Q (some (.int x)) σ) (ex : x = jI i := by first | rfl | assumption | (simp only [jlit, jneg, jadd, jsub, jmul]; done) | (simp only [jlit, jneg, jadd, jsub, jmul]; congr 1 <;> omega) | (congr 1 <;> omega)) (ey : y = jI n := by first | rfl | assumption | (simp only [jlit, jneg, jadd, jsub, jmul]; done) | (simp only [jlit, jneg, jadd, jsub, jmul]; congr 1 <;> omega) | (congr 1 <;> omega)) : MW l G d mJ3_checkIndex_8e157 [.int x, .int y, v] σ Q := by
  rcases hv with rfl | rfl
  · refine vJ3_checkIndex_8e157 [] 40 ?_
    refine brlt i 0 (fun q => by omega) (fun _ => ?_) (hx := ex) (hy := rfl)
    exact brlt i n (fun _ => hq) (fun q => by omega) (hx := ex) (hy := ey)
  · refine vJ3_checkIndex_8e157 [] 40 ?_
    refine brlt i 0 (fun q => by omega) (fun _ => ?_) (hx := ex) (hy := rfl)
    exact brlt i n (fun _ => hq) (fun q => by omega) (hx := ex) (hy := ey)
theorem s_check {x y : Int32} (hG : GX G) (i n : Int) (hi : 0 ≤ i ∧ i < n) (hn : n < 2147483648) (hq : Q none σ) (ex : x = jI i := by first | rfl | assumption | (simp only [jlit, jneg, jadd, jsub, jmul]; done) | (simp only [jlit, jneg, jadd, jsub, jmul]; congr 1 <;> omega) | (congr 1 <;> omega)) (ey : y = jI n := by first | rfl | assumption | (simp only [jlit, jneg, jadd, jsub, jmul]; done) | (simp only [jlit, jneg, jadd, jsub, jmul]; congr 1 <;> omega) | (congr 1 <;> omega)) : MW l G (d + 1) mJ0_checkIndex_df160 [.int x, .int y] σ Q := by
  refine vJ0_checkIndex_df160 [] 40 ?_
  refine And.intro hG (And.intro ?_ ?_)
  · exact s_check3 (Or.inl rfl) i n hi hn hq ex ey
  · exact s_check3 (Or.inr rfl) i n hi hn hq ex ey
theorem s_coder {a : Nat} (hG : GX G) (ha : a = 210 ∨ a = 211 ∨ a = 212 ∨ a = 213 ∨ a = 214) (hq : Q (some (.int 0)) σ) : MW l G d mJ0_coder_7d493 [.ref a] σ Q := by
  rcases ha with rfl | rfl | rfl | rfl | rfl
  all_goals
    refine vJ0_coder_7d493 [] 40 ?_
    refine And.intro hG (And.intro (fun q => absurd q (by decide)) (fun _ => And.intro hG ?_))
    exact ⟨rfl, hq⟩
theorem s_latin {a : Nat} (hG : GX G) (ha : a = 210 ∨ a = 211 ∨ a = 212 ∨ a = 213 ∨ a = 214) (hq : Q (some (.int 1)) σ) : MW l G d mJ0_isLatin1_aae02 [.ref a] σ Q := by
  rcases ha with rfl | rfl | rfl | rfl | rfl
  all_goals
    refine vJ0_isLatin1_aae02 [] 40 ?_
    refine And.intro hG (And.intro (fun q => absurd q (by decide)) (fun _ => And.intro hG ?_))
    refine And.intro (fun _ => ?_) (fun q => absurd rfl q)
    exact ⟨Or.inr rfl, hq⟩
end St
