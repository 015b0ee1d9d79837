-- loads that give their value a name; lengths; static arrays and texts that nobody writes
section Ops3
variable {M : Me} {pc : Nat}
def zt_no : Tr := fun _ _ _ _ _ _ _ _ => False
theorem ze_no {n : Nat} : Ent M (pc, n, zt_no) := by
  intro l G d K Q lv st σ hK hJ h
  exact h.elim
def zt_iald : Tr := fun _ _ _ K _ lv st σ => match st with | .int i :: .ref a :: st => vp_in i (lenI a) ∧ ∀ x, σ.1 a i.toNatClampNeg = x → K none lv (.int x :: st) σ | _ => False
theorem ze_iald (hd : decode M.2.1 pc = .ok (.iaload, 1)) : Ent M (pc, pc + 1, zt_iald) := by
  intro l G d K Q lv st σ hK hJ h
  refine ze_iaload hd l G d K Q lv st σ hK hJ ?_
  unfold zt_iald at h
  unfold zt_iaload
  dsimp only at h ⊢
  split at h
  · exact ⟨h.1, h.2 _ rfl⟩
  · exact h.elim
def zt_bald : Tr := fun _ _ _ K _ lv st σ => match st with | .int i :: .ref a :: st => vp_in i (lenB a) ∧ ∀ x, σ.1 a i.toNatClampNeg = x → K none lv (.int x :: st) σ | _ => False
theorem ze_bald (hd : decode M.2.1 pc = .ok (.baload, 1)) : Ent M (pc, pc + 1, zt_bald) := by
  intro l G d K Q lv st σ hK hJ h
  refine ze_baload hd l G d K Q lv st σ hK hJ ?_
  unfold zt_bald at h
  unfold zt_baload
  dsimp only at h ⊢
  split at h
  · exact ⟨h.1, h.2 _ rfl⟩
  · exact h.elim
def zt_lald : Tr := fun _ _ _ K _ lv st σ => match st with | .int i :: .ref a :: st => vp_in i (lenJ a) ∧ ∀ x, σ.2 a i.toNatClampNeg = x → K none lv (.long x :: st) σ | _ => False
theorem ze_lald (hd : decode M.2.1 pc = .ok (.laload, 1)) : Ent M (pc, pc + 1, zt_lald) := by
  intro l G d K Q lv st σ hK hJ h
  refine ze_laload hd l G d K Q lv st σ hK hJ ?_
  unfold zt_lald at h
  unfold zt_laload
  dsimp only at h ⊢
  split at h
  · exact ⟨h.1, h.2 _ rfl⟩
  · exact h.elim
def zt_aald : Tr := fun _ _ _ K _ lv st σ => match st with | .int i :: .ref a :: st => vp_in i (lenQ a) ∧ ∀ x, refA a i.toNatClampNeg = x → K none lv (.ref x :: st) σ | _ => False
theorem ze_aald (hd : decode M.2.1 pc = .ok (.aaload, 1)) : Ent M (pc, pc + 1, zt_aald) := by
  intro l G d K Q lv st σ hK hJ h
  refine ze_aaload hd l G d K Q lv st σ hK hJ ?_
  unfold zt_aald at h
  unfold zt_aaload
  dsimp only at h ⊢
  split at h
  · exact ⟨h.1, h.2 _ rfl⟩
  · exact h.elim
def zt_alen : Tr := fun _ _ _ K _ lv st σ => match st with | .ref a :: st => if (sh a).1 < 5 ∧ a < NN then K none lv (.int (Int32.ofNat (sh a).2.1) :: st) σ else False | _ => False
theorem ze_alen (hd : decode M.2.1 pc = .ok (.arraylength, 1)) : Ent M (pc, pc + 1, zt_alen) := by
  intro l G d K Q lv st σ hK hJ h p e s m args below meth c H locs ls C hP hS hl
  obtain ⟨hx, hb, hr, hml, hown, hts, hlocks, hKx⟩ := id C
  unfold zt_alen at h
  dsimp only at h
  split at h
  · next a st =>
    split at h
    · next hn =>
      have hk := hK _ _ _ h p e s m args below meth c H locs ls C hP hS hl
      have hw := wo_at G σ hn.2
      have h5 : (sh a).1 = 0 ∨ (sh a).1 = 1 ∨ (sh a).1 = 2 ∨ (sh a).1 = 3 ∨ (sh a).1 = 4 := by omega
      rcases h5 with q | q | q | q | q
      · rw [cel_B q] at hw
        exact va_alen hx hb hKx.1 hP a 0 hw rfl rfl hd hk
      · rw [cel_I q] at hw
        exact va_alen hx hb hKx.1 hP a 1 hw rfl rfl hd hk
      · rw [cel_J q] at hw
        exact va_alen hx hb hKx.1 hP a 2 hw rfl rfl hd hk
      · rw [cel_Q (Or.inl q), q] at hw
        exact va_alen hx hb hKx.1 hP a 3 hw rfl rfl hd hk
      · rw [cel_Q (Or.inr q), q] at hw
        exact va_alen hx hb hKx.1 hP a 4 hw rfl rfl hd hk
    · exact h.elim
  · exact h.elim
/-- the static arrays (200 ..), the texts (210 ..) and their bytes (220 ..) -/
def stc (a : Nat) : List Int32 :=
  if a = 200 then [108, 105, 120, 112] else if a = 201 then [1, 12, 16, 24] else if a = 202 then [0, 14, 16, 19, 22]
  else if a = 203 then [112, 116, 99, 98, 117, 100, 113, 109, 115, 102, 110, 107, 103, 101, 121, 97, 121, 104, 114, 121, 104, 97]
  else if a = 204 then [1, 1, 0, 0, 0, 0, 0, 0, 0, 0, 0, 0, 0, 0, 1, 0, 0, 0, 0, 0, 0, 0]
  else if a = 205 then [9999, 12, 999, 999, 99, 99, 100, 999, 99, 12, 2, 2, 99, 999, 12, 9999, 11, 11, 999, 11, 11, 2]
  else if a = 206 then [1000, 5, 50, 50, 10, 10, 50, 20, 5, 1, 0, 1, 0, 5, 1, 0, 0, 0, 0, 0, 0, 0]
  else if a = 207 then [117, 100, 99, 114, 119, 105, 120, 98, 97, 102]
  else if a = 220 then [112, 116, 99, 98, 117, 100, 113, 109, 115, 102, 110, 107, 103, 101] else if a = 221 then [121, 97] else if a = 222 then [121, 104, 114] else if a = 223 then [121, 104, 97] else if a = 224 then [117, 100, 99, 114, 119, 105, 120, 98, 97, 102] else []
def stn (a : Nat) : String × String × FieldType := if a = 200 then ("KINDS", "[C", .char) else if a = 201 then ("LIMITS", "[I", .int) else if a = 202 then ("FROM", "[I", .int) else if a = 203 then ("LETTERS", "[C", .char) else if a = 204 then ("LOWEST", "[I", .int) else if a = 205 then ("HIGHEST", "[I", .int) else if a = 206 then ("PLAIN", "[I", .int) else ("STEPS", "[C", .char)
def sti (k : Nat) : Nat × String := if k = 210 then (158, "ptcbudqmsfnkge") else if k = 211 then (164, "ya") else if k = 212 then (166, "yhr") else if k = 213 then (178, "yha") else (183, "udcrwixbaf")
def Xs (G : GT) (U : State) : Prop :=
  (∀ a, 200 ≤ a → a < 208 → va_Z "RefundDesk$Reader" (stn a).1 (stn a).2.1 (.ref (G.2.1 a)) (aX G) U U.heap ∧ va_T (stn a).2.2 (G.2.1 a) (stc a).length (fun j => .int ((stc a).getD j 0)) (aX G) U U.heap) ∧
  (∀ a, 210 ≤ a → a < 215 → vk_R "RefundDeskModel" (sti a).1 (sti a).2 (G.2.1 a) U ∧ va_O "java/lang/String" (G.2.1 a) (aX G) U U.heap ∧ va_OF "java/lang/String" "coder" "B" (.int 0) (G.2.1 a) (aX G) U U.heap ∧ va_OF "java/lang/String" "value" "[B" (.ref (G.2.1 (a + 10))) (G.2.1 a) (aX G) U U.heap ∧ va_T .byte (G.2.1 (a + 10)) (stc (a + 10)).length (fun j => .int ((stc (a + 10)).getD j 0)) (aX G) U U.heap) ∧
  va_Z "java/lang/String" "COMPACT_STRINGS" "Z" (.int 1) (aX G) U U.heap ∧
  (va_Z "jdk/internal/util/Preconditions" "SIOOBE_FORMATTER" "Ljava/util/function/BiFunction;" .null (aX G) U U.heap ∨ va_Z "jdk/internal/util/Preconditions" "SIOOBE_FORMATTER" "Ljava/util/function/BiFunction;" (.ref (G.2.1 230)) (aX G) U U.heap)
def GX (G : GT) : Prop := ∀ U : State, G.2.2.2.2 U → Xs G U
def zt_gst (a : Nat) : Tr := fun _ G _ K _ lv st σ => GX G ∧ K none lv (.ref a :: st) σ
theorem ze_gst {idx a : Nat} (hd : decode M.2.1 pc = .ok (.getstatic idx, 3)) (h1 : 200 ≤ a ∧ a < 208) (hk : Cond.fieldLink M.2.2.2.2 idx "RefundDesk$Reader" (stn a).1 (stn a).2.1 ∈ gW) : Ent M (pc, pc + 3, zt_gst a) := by
  intro l G d K Q lv st σ hK hJ h p e s m args below meth c H locs ls C hP hS hl
  obtain ⟨hx, hb, hr, hml, hown, hts, hlocks, hKx⟩ := id C
  exact va_gets hx hb ((h.1 s hKx.2.1).1 a h1.1 h1.2).1 hS hown (hts _ hk) (fun _ z => z) hd (hK _ _ _ h.2 p e s m args below meth c H locs ls C hP hS hl)
def zt_sld (ty : FieldType) : Tr := fun _ G _ K _ lv st σ => match st with | .int i :: .ref a :: st => if 200 ≤ a ∧ a < 208 ∧ (stn a).2.2 = ty then GX G ∧ vp_in i (stc a).length ∧ ∀ x, (stc a).getD i.toNatClampNeg 0 = x → K none lv (.int x :: st) σ else False | _ => False
theorem ze_siald (hd : decode M.2.1 pc = .ok (.iaload, 1)) : Ent M (pc, pc + 1, zt_sld .int) := by
  intro l G d K Q lv st σ hK hJ h p e s m args below meth c H locs ls C hP hS hl
  obtain ⟨hx, hb, hr, hml, hown, hts, hlocks, hKx⟩ := id C
  unfold zt_sld at h
  dsimp only at h
  split at h
  · next i a st =>
    split at h
    · next hn =>
      have hT := ((h.1 s hKx.2.1).1 a hn.1 hn.2.1).2
      rw [hn.2.2] at hT
      exact va_ti hx hb hT hS h.2.1 rfl hd (hK _ _ _ (h.2.2 _ rfl) p e s m args below meth c H locs ls C hP hS hl)
    · exact h.elim
  · exact h.elim
theorem ze_scald (hd : decode M.2.1 pc = .ok (.caload, 1)) : Ent M (pc, pc + 1, zt_sld .char) := by
  intro l G d K Q lv st σ hK hJ h p e s m args below meth c H locs ls C hP hS hl
  obtain ⟨hx, hb, hr, hml, hown, hts, hlocks, hKx⟩ := id C
  unfold zt_sld at h
  dsimp only at h
  split at h
  · next i a st =>
    split at h
    · next hn =>
      have hT := ((h.1 s hKx.2.1).1 a hn.1 hn.2.1).2
      rw [hn.2.2] at hT
      exact va_tc hx hb hT hS h.2.1 rfl hd (hK _ _ _ (h.2.2 _ rfl) p e s m args below meth c H locs ls C hP hS hl)
    · exact h.elim
  · exact h.elim
def zt_sbld : Tr := fun _ G _ K _ lv st σ => match st with | .int i :: .ref a :: st => if 220 ≤ a ∧ a < 225 then GX G ∧ vp_in i (stc a).length ∧ ∀ x, (stc a).getD i.toNatClampNeg 0 = x → K none lv (.int x :: st) σ else False | _ => False
theorem ze_sbald (hd : decode M.2.1 pc = .ok (.baload, 1)) : Ent M (pc, pc + 1, zt_sbld) := by
  intro l G d K Q lv st σ hK hJ h p e s m args below meth c H locs ls C hP hS hl
  obtain ⟨hx, hb, hr, hml, hown, hts, hlocks, hKx⟩ := id C
  unfold zt_sbld at h
  dsimp only at h
  split at h
  · next i a st =>
    split at h
    · next hn =>
      have n1 : (220 : Nat) ≤ (a : Nat) := hn.1
      have n2 : (a : Nat) < (225 : Nat) := hn.2
      obtain ⟨b, rfl⟩ := Nat.exists_eq_add_of_le' (Nat.le_trans (by decide) n1 : (10 : Nat) ≤ a)
      have hT := ((h.1 s hKx.2.1).2.1 b (Nat.le_of_add_le_add_right (b := 10) n1) (Nat.lt_of_add_lt_add_right (n := 10) n2)).2.2.2.2
      exact va_tb hx hb hT hS h.2.1 rfl hd (hK _ _ _ (h.2.2 _ rfl) p e s m args below meth c H locs ls C hP hS hl)
    · exact h.elim
  · exact h.elim
def zt_slen : Tr := fun _ G _ K _ lv st σ => match st with | .ref a :: st => if (200 ≤ a ∧ a < 208) ∨ (220 ≤ a ∧ a < 225) then GX G ∧ K none lv (.int (Int32.ofNat (stc a).length) :: st) σ else False | _ => False
theorem ze_slen (hd : decode M.2.1 pc = .ok (.arraylength, 1)) : Ent M (pc, pc + 1, zt_slen) := by
  intro l G d K Q lv st σ hK hJ h p e s m args below meth c H locs ls C hP hS hl
  obtain ⟨hx, hb, hr, hml, hown, hts, hlocks, hKx⟩ := id C
  unfold zt_slen at h
  dsimp only at h
  split at h
  · next a st =>
    split at h
    · next hn =>
      have hk := hK _ _ _ h.2 p e s m args below meth c H locs ls C hP hS hl
      rcases hn with hn | hn
      · exact va_tlen hx hb ((h.1 s hKx.2.1).1 a hn.1 hn.2).2 hS rfl hd hk
      · have n1 : (220 : Nat) ≤ (a : Nat) := hn.1
        have n2 : (a : Nat) < (225 : Nat) := hn.2
        obtain ⟨b, rfl⟩ := Nat.exists_eq_add_of_le' (Nat.le_trans (by decide) n1 : (10 : Nat) ≤ a)
        exact va_tlen hx hb ((h.1 s hKx.2.1).2.1 b (Nat.le_of_add_le_add_right (b := 10) n1) (Nat.lt_of_add_lt_add_right (n := 10) n2)).2.2.2.2 hS rfl hd hk
    · exact h.elim
  · exact h.elim
def zt_lds (a : Nat) : Tr := fun _ G _ K _ lv st σ => GX G ∧ K none lv (.ref a :: st) σ
theorem ze_lds {a : Nat} (hd : decode M.2.1 pc = .ok (.ldc (sti a).1, 2)) (h1 : 210 ≤ a ∧ a < 215) (ho : M.2.2.2.2 = "RefundDeskModel") : Ent M (pc, pc + 2, zt_lds a) := by
  intro l G d K Q lv st σ hK hJ h p e s m args below meth c H locs ls C hP hS hl
  obtain ⟨hx, hb, hr, hml, hown, hts, hlocks, hKx⟩ := id C
  rw [ho] at hown
  exact va_ldcS hx hb hown ((h.1 s hKx.2.1).2.1 a h1.1 h1.2).1 hd (hK _ _ _ h.2 p e s m args below meth c H locs ls C hP hS hl)
def zt_strV : Tr := fun _ G _ K _ lv st σ => match st with | .ref a :: st => if 210 ≤ a ∧ a < 215 then GX G ∧ K none lv (.ref (a + 10) :: st) σ else False | _ => False
theorem ze_strV {idx : Nat} (hd : decode M.2.1 pc = .ok (.getfield idx, 3)) (hk : Cond.fieldLink M.2.2.2.2 idx "java/lang/String" "value" "[B" ∈ gW) : Ent M (pc, pc + 3, zt_strV) := by
  intro l G d K Q lv st σ hK hJ h p e s m args below meth c H locs ls C hP hS hl
  obtain ⟨hx, hb, hr, hml, hown, hts, hlocks, hKx⟩ := id C
  unfold zt_strV at h
  dsimp only at h
  split at h
  · next a st =>
    split at h
    · next hn => exact vk_getf hx hb ((h.1 s hKx.2.1).2.1 a hn.1 hn.2).2.2.2.1 hS hown (hts _ hk) (fun _ z => z) hd (hK _ _ _ h.2 p e s m args below meth c H locs ls C hP hS hl)
    · exact h.elim
  · exact h.elim
def zt_strC : Tr := fun _ G _ K _ lv st σ => match st with | .ref a :: st => if 210 ≤ a ∧ a < 215 then GX G ∧ K none lv (.int 0 :: st) σ else False | _ => False
theorem ze_strC {idx : Nat} (hd : decode M.2.1 pc = .ok (.getfield idx, 3)) (hk : Cond.fieldLink M.2.2.2.2 idx "java/lang/String" "coder" "B" ∈ gW) : Ent M (pc, pc + 3, zt_strC) := by
  intro l G d K Q lv st σ hK hJ h p e s m args below meth c H locs ls C hP hS hl
  obtain ⟨hx, hb, hr, hml, hown, hts, hlocks, hKx⟩ := id C
  unfold zt_strC at h
  dsimp only at h
  split at h
  · next a st =>
    split at h
    · next hn => exact vk_getf hx hb ((h.1 s hKx.2.1).2.1 a hn.1 hn.2).2.2.1 hS hown (hts _ hk) (fun _ z => z) hd (hK _ _ _ h.2 p e s m args below meth c H locs ls C hP hS hl)
    · exact h.elim
  · exact h.elim
def zt_gcs : Tr := fun _ G _ K _ lv st σ => GX G ∧ K none lv (.int 1 :: st) σ
theorem ze_gcs {idx : Nat} (hd : decode M.2.1 pc = .ok (.getstatic idx, 3)) (hk : Cond.fieldLink M.2.2.2.2 idx "java/lang/String" "COMPACT_STRINGS" "Z" ∈ gW) : Ent M (pc, pc + 3, zt_gcs) := by
  intro l G d K Q lv st σ hK hJ h p e s m args below meth c H locs ls C hP hS hl
  obtain ⟨hx, hb, hr, hml, hown, hts, hlocks, hKx⟩ := id C
  exact va_gets hx hb (h.1 s hKx.2.1).2.2.1 hS hown (hts _ hk) (fun _ z => z) hd (hK _ _ _ h.2 p e s m args below meth c H locs ls C hP hS hl)
def zt_gfm : Tr := fun _ G _ K _ lv st σ => GX G ∧ K none lv (.null :: st) σ ∧ K none lv (.ref 230 :: st) σ
theorem ze_gfm {idx : Nat} (hd : decode M.2.1 pc = .ok (.getstatic idx, 3)) (hk : Cond.fieldLink M.2.2.2.2 idx "jdk/internal/util/Preconditions" "SIOOBE_FORMATTER" "Ljava/util/function/BiFunction;" ∈ gW) : Ent M (pc, pc + 3, zt_gfm) := by
  intro l G d K Q lv st σ hK hJ h p e s m args below meth c H locs ls C hP hS hl
  obtain ⟨hx, hb, hr, hml, hown, hts, hlocks, hKx⟩ := id C
  rcases (h.1 s hKx.2.1).2.2.2 with q | q
  · exact va_gets hx hb q hS hown (hts _ hk) (fun _ z => z) hd (hK _ _ _ h.2.1 p e s m args below meth c H locs ls C hP hS hl)
  · exact va_gets hx hb q hS hown (hts _ hk) (fun _ z => z) hd (hK _ _ _ h.2.2 p e s m args below meth c H locs ls C hP hS hl)
def zt_i2c : Tr := fun _ _ _ K _ lv st σ => match st with | .int x :: st => K none lv (.int ((x.toUInt32 % 65536).toInt32) :: st) σ | _ => False
theorem ze_i2c (hd : decode M.2.1 pc = .ok (.i2c, 1)) : Ent M (pc, pc + 1, zt_i2c) := by
  intro l G d K Q lv st σ hK hJ h p e s m args below meth c H locs ls C hP hS hl
  obtain ⟨hx, hb, hr, hml, hown, hts, hlocks, hKx⟩ := id C
  unfold zt_i2c at h
  dsimp only at h
  split at h
  · next x st => exact lv_i2c hx hb hd rfl (hK _ _ _ h p e s m args below meth c H locs ls C hP hS hl)
  · exact h.elim
/-- a small number returned as a char or a byte -/
def zt_nret (ty : FieldType) : Tr := fun _ _ _ _ Q _ st σ => match st with | [.int v] => narrow ty (.int v) = .int v ∧ Q (some (.int v)) σ | _ => False
theorem ze_nret {n : Nat} {ty : FieldType} (hd : decode M.2.1 pc = .ok (.ireturn, 1)) (hM : M.2.2.2.1 = some ty) : Ent M (pc, n, zt_nret ty) := by
  intro l G d K Q lv st σ hK hJ h p e s m args below meth c H locs ls C hP hS hl
  obtain ⟨hx, hb, hr, hml, hown, hts, hlocks, hKx⟩ := id C
  unfold zt_nret at h
  dsimp only at h
  split at h
  · next v => exact W.zret hx hb (hr.trans hM) h.1 (fun t ht _ => ⟨⟨some (.int v), σ, rfl, h.2, by rw [ht]; exact hP⟩, hS.F ht⟩) hS.2.2 hd hlocks
  · exact h.elim
/-- a call on a text -/
def MeT (M' : Me) (n : Nat) : Prop := MeC M' ∧ MeN M' n ∧ Cond.instanceMethod M'.1 ∈ gW ∧ Cond.selects M'.1.cls M'.1 M'.1 ∈ gW ∧ M'.1.cls = "java/lang/String"
def zt_callT (M' : Me) (n : Nat) : Tr := fun l G d K _ lv st σ => match d with
  | 0 => False
  | d' + 1 => match st.drop n with
    | .ref a :: rest => if n ≤ st.length ∧ (210 ≤ a ∧ a < 215) ∧ catS rest ≤ 24 then GX G ∧ MW l G d' M' (.ref a :: (st.take n).reverse) σ (fun r σ' => K none lv (r.toList ++ rest) σ') else False
    | _ => False
theorem ze_callT {M' : Me} {n idx : Nat} (hd : decode M.2.1 pc = .ok (.invokevirtual idx, 3)) (hk : Cond.methodLink M.2.2.2.2 idx M'.1 ∈ gW) (hm : MeT M' n) : Ent M (pc, pc + 3, zt_callT M' n) := by
  intro l G d K Q lv st σ hK hJ h p e s m args below meth c H locs ls C hP hS hl
  obtain ⟨hx, hb, hr, hml, hown, hts, hlocks, hKx⟩ := id C
  unfold zt_callT at h
  dsimp only at h
  cases d with
  | zero => exact h.elim
  | succ d =>
    dsimp only at h
    split at h
    · next a rest hdr =>
      split at h
      · next hn =>
        intro T hT X
        obtain ⟨cellB, hcB, hoB, hclB, -⟩ := ((h.1 s hKx.2.1).2.1 a hn.2.1.1 hn.2.1.2).2.1.kept hS.2.1
        rw [← hm.2.2.2.2] at hclB
        have hst : st.map (tv G) = (((st.take n).reverse).map (tv G)).reverse ++ .ref (G.2.1 a) :: rest.map (tv G) := by
          rw [← List.map_reverse, List.reverse_reverse]
          have : st.map (tv G) = (st.take n).map (tv G) ++ (st.drop n).map (tv G) := by rw [← List.map_append, List.take_append_drop]
          rw [this, hdr]; rfl
        obtain ⟨v, vm1, ⟨U', l2, c2, s2⟩, hW1, X', ⟨g', mk, t, L, e1, e2, hq, h1, hL, h2, h3⟩, go⟩ := callV X hx (C := M'.1.cls) (bytes := M'.2.1) (maxL := M'.2.2.1) (ret := M'.2.2.2.1) hown (hts _ hk) (hts _ hm.2.2.1) (hts _ hm.2.2.2.1) (hts _ hm.1.1) hm.1.2.2.1 (cal_back hm.1 hts h.2) (by rw [hT]; exact hcB) hoB hclB (g := F0 m pc ls (st.map (tv G))) rfl (hl.1.trans hml.symm) (argsL := (st.take n).reverse.map (tv G)) (rest := rest.map (tv G)) (len_of hm.2.1 (by simp; omega)) hst (room24 hn.2.2) (by rw [hb]; exact hd) (fun vm1 hW1 => cal_pre (l := l) hT hP hS hKx vm1 hW1)
        dsimp only [Pt.U, Pt.locs, Pt.cells, Pt.slots] at X' e1 e2 h1 h2 h3 go
        subst h1; subst h2; subst h3
        obtain ⟨⟨r, σ', hv, hQ, hP'⟩, hF⟩ := hq
        cases hv
        have hgo := hK _ _ _ hQ p e s m args below meth c t.heap (locs ++ L) ls C hP' (cal_S hS (st0 := (T.setVm vm1).calling g' mk _) hT hF hL) hl
        obtain ⟨t2, a1, b1⟩ := hgo U' e1 X'
        refine ⟨t2, go t2 ?_, b1⟩
        have he : (r.map (tv G)).toList ++ rest.map (tv G) = (r.toList ++ rest).map (tv G) := by cases r <;> simp
        rw [he]
        exact a1
      · exact h.elim
    · exact h.elim
/-- arraycopy out of a static array of ints -/
def zt_copyS : Tr := fun _ G d K _ lv st σ => match st with
  | .int n :: .int dp :: .ref a :: .int sp :: .ref a0 :: st => if 1 ≤ d ∧ catS st ≤ 24 ∧ 200 ≤ a0 ∧ a0 < 208 ∧ (stn a0).2.2 = .int then GX G ∧ (¬ sp < 0 ∧ ¬ dp < 0 ∧ ¬ n < 0 ∧ (sh a).1 = 1 ∧ a < NN ∧ sp.toNatClampNeg + n.toNatClampNeg ≤ (stc a0).length ∧ dp.toNatClampNeg + n.toNatClampNeg ≤ lenI a) ∧ K none lv st (uR σ a (va_cpy (fun j => (stc a0).getD j 0) (σ.1 a) sp.toNatClampNeg dp.toNatClampNeg n.toNatClampNeg)) else False
  | _ => False
theorem ze_copyS {idx : Nat} (hd : decode M.2.1 pc = .ok (.invokestatic idx, 3)) (hk : Cond.methodLink M.2.2.2.2 idx arraycopyName ∈ gW) (h1 : Cond.native arraycopyName ∈ gW) (h2 : Cond.static arraycopyName ∈ gW) (h3 : Cond.initialized "java/lang/System" ∈ gW) : Ent M (pc, pc + 3, zt_copyS) := by
  intro l G d K Q lv st σ hK hJ h p e s m args below meth c H locs ls C hP hS hl
  obtain ⟨hx, hb, hr, hml, hown, hts, hlocks, hKx⟩ := id C
  unfold zt_copyS at h
  dsimp only at h
  split at h
  · next n dp a sp a0 st =>
    split at h
    · next hn =>
      obtain ⟨hG, ⟨g1, g2, g3, g5, g7, g8, g9⟩, h⟩ := h
      have hT := ((hG s hKx.2.1).1 a0 hn.2.2.1 hn.2.2.2.1).2
      rw [hn.2.2.2.2] at hT
      have q1 : lenI a = (sh a).2.1 := if_pos ⟨g5, g7⟩
      have nn : ∀ z : Int32, ¬ z < 0 → z.toInt = (z.toNatClampNeg : Int) := by
        intro z hz
        have h0 : (0 : Int) ≤ z.toInt := by simpa using Int32.le_iff_toInt_le.mp (Int32.not_lt.mp hz)
        show z.toInt = ((z.toInt.toNat : Nat) : Int)
        omega
      have hlo : ((st.map (tv G)).map fun v => v.category).sum + (nativeFrameWords "java/lang/System" "arraycopy" 5 + 11) ≤ (rmD d).locals := by
        rw [catS_tv]
        have h5 : nativeFrameWords "java/lang/System" "arraycopy" 5 + 11 ≤ 60 := by decide +kernel
        show catS st + (nativeFrameWords "java/lang/System" "arraycopy" 5 + 11) ≤ 96 * d
        omega
      intro T hT0 X
      have hw := (wo_at G σ g7).trans (congrArg (fun z => some (G.2.1 a, z)) (cel_I g5))
      obtain ⟨scr, t1, t2, t3, t4, -, t5, t6⟩ := hT
      have c0 : H[G.2.1 a0]? = some scr := by rw [hS.2.1 _ (Array.getElem?_eq_some_iff.mp t1).1 t6]; exact t1
      have c1 : H[G.2.1 a]? = some (vp_cell (G.2.2.1 1) ((sh a).2.1, .inl (σ.1 a))) := hP a _ hw
      obtain ⟨t7, k0, hk0, cm0, hkk0⟩ := t2
      obtain ⟨-, k1, hk1, cm1, hkk1⟩ := (hKx.1.2 1 _ rfl).1 (sh a).2.1 (fun j => .int (σ.1 a j))
      obtain ⟨vm', X', go⟩ := X.arraycopy hx hown (hts _ hk) (hts _ h1) (hts _ h2) (hts _ h3) (src := G.2.1 a0) (dst := G.2.1 a) (cs := scr) (cd := vp_cell (G.2.2.1 1) ((sh a).2.1, .inl (σ.1 a))) (srcPos := sp) (destPos := dp) (n := n) (by rw [hT0]; exact c0) (by rw [hT0]; exact c1) t7 (fun _ z => by cases z) t3 (fun z => by cases z) hk0 hk1 hkk0 hkk1 (by simp [refKind]) g1 g2 g3 (by rw [nn sp g1, nn n g3]; omega) (by rw [nn dp g2, nn n g3]; show ¬ _ > ((arrV _ (sh a).2.1 (fun j => .int (σ.1 a j))).slots.size : Int); rw [arrV_size, ← q1]; omega)
        (fun vm1 _ i hi => by
          have e1 : scr.slots.getD (sp.toNatClampNeg + i) .null = .int ((stc a0).getD (sp.toNatClampNeg + i) 0) := by
            rw [Array.getD_eq_getD_getElem?, t5 _ (by omega)]; rfl
          rw [e1]
          exact ⟨rfl, trivial⟩)
        (g := F0 m pc ls (.int n :: .int dp :: .ref (G.2.1 a) :: .int sp :: .ref (G.2.1 a0) :: st.map (tv G))) rfl (hl.1.trans hml.symm) (rest := st.map (tv G)) rfl (by rw [hb]; exact hd) hn.1 (by show 2 * 0 + _ + _ ≤ _; omega)
      have e1 : copied scr (vp_cell (G.2.2.1 1) ((sh a).2.1, .inl (σ.1 a))) sp dp n = vp_cell (G.2.2.1 1) ((sh a).2.1, .inl (va_cpy (fun j => (stc a0).getD j 0) (σ.1 a) sp.toNatClampNeg dp.toNatClampNeg n.toNatClampNeg)) := va_copiedX (fun z => .int z) scr (G.2.2.1 1) (fun j => (stc a0).getD j 0) (σ.1 a) t5 g8
      rw [e1] at X' go
      generalize hcel : vp_cell (G.2.2.1 1) ((sh a).2.1, .inl (va_cpy (fun j => (stc a0).getD j 0) (σ.1 a) sp.toNatClampNeg dp.toNatClampNeg n.toNatClampNeg)) = cel1 at X' go
      have hlt : G.2.1 a < H.size := (Array.getElem?_eq_some_iff.mp c1).1
      have hD := wo_D hKx σ
      have oq : ∀ q : Nat, q ≠ G.2.1 a → (H.setIfInBounds (G.2.1 a) cel1)[q]? = H[q]? := fun q hq => by simp [Array.getElem?_setIfInBounds, Ne.symm hq]
      have hP1 := hP.set (H1 := H.setIfInBounds (G.2.1 a) cel1) (e := .inl (G.2.2.1 1, (sh a).2.1, .inl (va_cpy (fun j => (stc a0).getD j 0) (σ.1 a) sp.toNatClampNeg dp.toNatClampNeg n.toNatClampNeg))) hD hw (show (H.setIfInBounds (G.2.1 a) cel1)[G.2.1 a]? = some _ by rw [← hcel]; simp [Array.getElem?_setIfInBounds, hlt]) oq
      rw [wo_set (σ' := uR σ a (va_cpy (fun j => (stc a0).getD j 0) (σ.1 a) sp.toNatClampNeg dp.toNatClampNeg n.toNatClampNeg)) (by rw [cel_I g5]; simp [uR]) (fun b hb => by simp [uR, hb]) (fun b hb => by simp [uR, hb])] at hP1
      have hS1 : ∀ L : List Loc, (∀ q ∈ L, q.base = G.2.1 a) → va_S (aX G) s.heap (H.setIfInBounds (G.2.1 a) cel1) (locs ++ L) := fun L hL => ⟨by simp; exact hS.1, fun q z1 z2 => by
          rw [oq q (fun e => z2 (by rw [e]; exact hD.2 a _ hw))]
          exact hS.2.1 q z1 z2, fun q hq => by
          rcases List.mem_append.mp hq with z | z
          · exact hS.2.2 q z
          · rw [hL q z]; exact hD.2 a _ hw⟩
      obtain ⟨t, a1, b1⟩ := hK _ _ _ h p e s m args below meth c (H.setIfInBounds (G.2.1 a) cel1) _ ls C hP1 (hS1 _ (fun q hq => by
        obtain ⟨z, -, hz⟩ := List.mem_map.mp hq
        rw [← hz])) hl _ (by rw [← hT0]; rfl) X'
      exact ⟨t, go t a1, b1⟩
    · exact h.elim
  · exact h.elim

/-- a list laid out before one goes on with it -/
def frc {α : Type} : List α → (List α → Prop) → Prop
  | [], k => k []
  | q :: l, k => frc l (fun l' => k (q :: l'))
theorem frc_eq {α : Type} : ∀ (l : List α) (k : List α → Prop), frc l k = k l
  | [], _ => rfl
  | q :: l, k => frc_eq l (fun l' => k (q :: l'))
def zt_istoreF (i : Nat) : Tr := fun _ _ _ K _ lv st σ => match st with | .int x :: st => frc (sto lv i (.int x)) (fun lv => K none lv st σ) | _ => False
theorem zq_istore {i : Nat} {l : Launch} {G : GT} {d : Nat} {K : Ko} {Q : Po} {lv : Lv} {st : List Value} {σ : Mm} (h : zt_istoreF i l G d K Q lv st σ) : zt_istore i l G d K Q lv st σ := by
  unfold zt_istoreF at h
  unfold zt_istore
  try dsimp only at h ⊢
  split at h
  · rw [frc_eq] at h; exact h
  · exact h.elim
theorem ze_istoreF {i : Nat} (hd : decode M.2.1 pc = .ok (.istore i, 2)) (hn : i < M.2.2.1) : Ent M (pc, pc + 2, zt_istoreF i) := fun l G d K Q lv st σ hK hJ h => ze_istore hd hn l G d K Q lv st σ hK hJ (zq_istore (l := l) (G := G) (d := d) (Q := Q) h)
theorem ze_istoreF_n {i : Nat} {k : Fin 4} (hd : decode M.2.1 pc = .ok (.istore_n k, 1)) (hi : (k : Nat) = i) (hn : i < M.2.2.1) : Ent M (pc, pc + 1, zt_istoreF i) := fun l G d K Q lv st σ hK hJ h => ze_istore_n hd hi hn l G d K Q lv st σ hK hJ (zq_istore (l := l) (G := G) (d := d) (Q := Q) h)
def zt_astoreF (i : Nat) : Tr := fun _ _ _ K _ lv st σ => match st with | .ref x :: st => frc (sto lv i (.ref x)) (fun lv => K none lv st σ) | _ => False
theorem zq_astore {i : Nat} {l : Launch} {G : GT} {d : Nat} {K : Ko} {Q : Po} {lv : Lv} {st : List Value} {σ : Mm} (h : zt_astoreF i l G d K Q lv st σ) : zt_astore i l G d K Q lv st σ := by
  unfold zt_astoreF at h
  unfold zt_astore
  try dsimp only at h ⊢
  split at h
  · rw [frc_eq] at h; exact h
  · exact h.elim
theorem ze_astoreF {i : Nat} (hd : decode M.2.1 pc = .ok (.astore i, 2)) (hn : i < M.2.2.1) : Ent M (pc, pc + 2, zt_astoreF i) := fun l G d K Q lv st σ hK hJ h => ze_astore hd hn l G d K Q lv st σ hK hJ (zq_astore (l := l) (G := G) (d := d) (Q := Q) h)
theorem ze_astoreF_n {i : Nat} {k : Fin 4} (hd : decode M.2.1 pc = .ok (.astore_n k, 1)) (hi : (k : Nat) = i) (hn : i < M.2.2.1) : Ent M (pc, pc + 1, zt_astoreF i) := fun l G d K Q lv st σ hK hJ h => ze_astore_n hd hi hn l G d K Q lv st σ hK hJ (zq_astore (l := l) (G := G) (d := d) (Q := Q) h)
def zt_lstoreF (i : Nat) : Tr := fun _ _ _ K _ lv st σ => match st with | .long x :: st => frc (sto2 lv i (.long x)) (fun lv => K none lv st σ) | _ => False
theorem zq_lstore {i : Nat} {l : Launch} {G : GT} {d : Nat} {K : Ko} {Q : Po} {lv : Lv} {st : List Value} {σ : Mm} (h : zt_lstoreF i l G d K Q lv st σ) : zt_lstore i l G d K Q lv st σ := by
  unfold zt_lstoreF at h
  unfold zt_lstore
  try dsimp only at h ⊢
  split at h
  · rw [frc_eq] at h; exact h
  · exact h.elim
theorem ze_lstoreF {i : Nat} (hd : decode M.2.1 pc = .ok (.lstore i, 2)) (hn : i + 1 < M.2.2.1) : Ent M (pc, pc + 2, zt_lstoreF i) := fun l G d K Q lv st σ hK hJ h => ze_lstore hd hn l G d K Q lv st σ hK hJ (zq_lstore (l := l) (G := G) (d := d) (Q := Q) h)
theorem ze_lstoreF_n {i : Nat} {k : Fin 4} (hd : decode M.2.1 pc = .ok (.lstore_n k, 1)) (hi : (k : Nat) = i) (hn : i + 1 < M.2.2.1) : Ent M (pc, pc + 1, zt_lstoreF i) := fun l G d K Q lv st σ hK hJ h => ze_lstore_n hd hi hn l G d K Q lv st σ hK hJ (zq_lstore (l := l) (G := G) (d := d) (Q := Q) h)
def zt_iincF (i : Nat) (n : Int32) : Tr := fun _ _ _ K _ lv st σ => match lk lv i with | some (.int x) => frc (sto lv i (.int (x + n))) (fun lv => K none lv st σ) | _ => False
theorem ze_iincF {i : Nat} {n : Int} {v : Int32} (hd : decode M.2.1 pc = .ok (.iinc i n, 3)) (hv : Int32.ofInt n = v) (hn : i < M.2.2.1) : Ent M (pc, pc + 3, zt_iincF i v) := by
  intro l G d K Q lv st σ hK hJ h
  refine ze_iinc hd hv hn l G d K Q lv st σ hK hJ ?_
  unfold zt_iincF at h
  unfold zt_iinc
  dsimp only at h ⊢
  split at h
  · rw [frc_eq] at h
    next x hx => rw [hx]; exact h
  · exact h.elim
def zt_callSF (M' : Me) (n : Nat) : Tr := fun l G d K _ lv st σ => match d with
  | 0 => False
  | d' + 1 => if n ≤ st.length ∧ catS (st.drop n) ≤ 24 then MW l G d' M' (st.take n).reverse σ (fun r σ' => frc (r.toList ++ st.drop n) (fun st => K none lv st σ')) else False
theorem ze_callSF {M' : Me} {n idx : Nat} (hd : decode M.2.1 pc = .ok (.invokestatic idx, 3)) (hk : Cond.methodLink M.2.2.2.2 idx M'.1 ∈ gW) (hm : MeS M' n) : Ent M (pc, pc + 3, zt_callSF M' n) := by
  intro l G d K Q lv st σ hK hJ h
  refine ze_callS hd hk hm l G d K Q lv st σ hK hJ ?_
  unfold zt_callSF at h
  unfold zt_callS
  dsimp only at h ⊢
  cases d with
  | zero => exact h.elim
  | succ d =>
    dsimp only at h ⊢
    split at h
    · next hn =>
      rw [if_pos hn]
      exact MW.mono h (fun r σ' q => by rw [frc_eq] at q; exact q)
    · exact h.elim
def zt_callVF (M' : Me) (n cn : Nat) : Tr := fun l G d K _ lv st σ => match d with
  | 0 => False
  | d' + 1 => match st.drop n with
    | .ref a :: rest => if n ≤ st.length ∧ (sh a).1 = cn ∧ catS rest ≤ 24 then MW l G d' M' (.ref a :: (st.take n).reverse) σ (fun r σ' => frc (r.toList ++ rest) (fun st => K none lv st σ')) else False
    | _ => False
theorem ze_callVF {M' : Me} {n idx ci cn : Nat} (hd : decode M.2.1 pc = .ok (.invokevirtual idx, 3)) (hk : Cond.methodLink M.2.2.2.2 idx M'.1 ∈ gW) (hm : MeV M' n ci) (hcn : 10 + ci = cn) : Ent M (pc, pc + 3, zt_callVF M' n cn) := by
  intro l G d K Q lv st σ hK hJ h
  refine ze_callV hd hk hm hcn l G d K Q lv st σ hK hJ ?_
  unfold zt_callVF at h
  unfold zt_callV
  dsimp only at h ⊢
  cases d with
  | zero => exact h.elim
  | succ d =>
    dsimp only at h ⊢
    split at h
    · next a rest hdr =>
      split at h
      · next hn =>
        rw [hdr]
        dsimp only
        rw [if_pos hn]
        exact MW.mono h (fun r σ' q => by rw [frc_eq] at q; exact q)
      · exact h.elim
    · exact h.elim
/-- an object's refs -/
def shr (a : Nat) : List (Option Nat) := (if a < 61 then (if a < 30 then (if a < 15 then (if a < 7 then (if a < 3 then (if a < 1 then [some 1, some 2, some 3, some 4, some 5, some 6, some 8, some 12, some 15, some 63, some 64, some 69, some 96, none] else (if a < 2 then [] else [])) else (if a < 5 then (if a < 4 then [] else []) else (if a < 6 then [] else [some 7, none]))) else (if a < 11 then (if a < 9 then (if a < 8 then [] else [some 9, some 10, none, some 11, some 6, none, none]) else (if a < 10 then [] else [])) else (if a < 13 then (if a < 12 then [] else [some 13, some 14, none]) else (if a < 14 then [] else [])))) else (if a < 22 then (if a < 18 then (if a < 16 then [some 16, some 17, some 18, some 19, some 31, some 43, some 1, some 55, some 56, some 59, some 62, none] else (if a < 17 then [] else [])) else (if a < 20 then (if a < 19 then [] else [some 20, some 21, some 22, some 23, some 27, none, none, none]) else (if a < 21 then [] else []))) else (if a < 26 then (if a < 24 then (if a < 23 then [] else []) else (if a < 25 then [] else [])) else (if a < 28 then (if a < 27 then [] else []) else (if a < 29 then [] else []))))) else (if a < 45 then (if a < 37 then (if a < 33 then (if a < 31 then [] else (if a < 32 then [some 32, some 33, some 34, some 35, some 39, none, none, none] else [])) else (if a < 35 then (if a < 34 then [] else []) else (if a < 36 then [] else []))) else (if a < 41 then (if a < 39 then (if a < 38 then [] else []) else (if a < 40 then [] else [])) else (if a < 43 then (if a < 42 then [] else []) else (if a < 44 then [some 44, some 45, some 46, some 47, some 51, none, none, none] else [])))) else (if a < 53 then (if a < 49 then (if a < 47 then (if a < 46 then [] else []) else (if a < 48 then [] else [])) else (if a < 51 then (if a < 50 then [] else []) else (if a < 52 then [] else []))) else (if a < 57 then (if a < 55 then (if a < 54 then [] else []) else (if a < 56 then [] else [])) else (if a < 59 then (if a < 58 then [] else []) else (if a < 60 then [] else [])))))) else (if a < 92 then (if a < 76 then (if a < 68 then (if a < 64 then (if a < 62 then [] else (if a < 63 then [] else [some 1, some 2, some 15, none])) else (if a < 66 then (if a < 65 then [none, some 65, some 66, some 67, some 68, none, none, none, none] else []) else (if a < 67 then [] else []))) else (if a < 72 then (if a < 70 then (if a < 69 then [] else [none, none, none, none, none, none, none, none, some 1, some 15, some 70, some 71, none, none, none]) else (if a < 71 then [] else [])) else (if a < 74 then (if a < 73 then [some 73, some 74, some 75, some 76, some 80, none, none, none] else []) else (if a < 75 then [] else [])))) else (if a < 84 then (if a < 80 then (if a < 78 then (if a < 77 then [] else []) else (if a < 79 then [] else [])) else (if a < 82 then (if a < 81 then [] else []) else (if a < 83 then [] else []))) else (if a < 88 then (if a < 86 then (if a < 85 then [some 85, some 86, some 87, some 88, some 92, none, none, none] else []) else (if a < 87 then [] else [])) else (if a < 90 then (if a < 89 then [] else []) else (if a < 91 then [] else []))))) else (if a < 107 then (if a < 99 then (if a < 95 then (if a < 93 then [] else (if a < 94 then [] else [])) else (if a < 97 then (if a < 96 then [] else [some 97, some 1]) else (if a < 98 then [] else [none, some 99, none, none, none, some 100, some 101, some 102, some 103, some 104, some 105, some 106, some 107, none, none, none, none, none, none, none, some 108, some 109, some 110, some 111, none, none, none, none, some 112, some 113, some 114, some 115, some 116, none, none, some 117, none, some 118, none, some 119, some 120, none, none, none, some 121]))) else (if a < 103 then (if a < 101 then (if a < 100 then [] else []) else (if a < 102 then [] else [])) else (if a < 105 then (if a < 104 then [] else []) else (if a < 106 then [] else [])))) else (if a < 115 then (if a < 111 then (if a < 109 then (if a < 108 then [] else []) else (if a < 110 then [] else [])) else (if a < 113 then (if a < 112 then [] else []) else (if a < 114 then [] else []))) else (if a < 119 then (if a < 117 then (if a < 116 then [] else []) else (if a < 118 then [] else [])) else (if a < 121 then (if a < 120 then [] else []) else (if a < 122 then [] else [])))))))
theorem shr_ok : ∀ a, a < NN → ∀ k, k < 45 → ((shr a).getD k none = none ∨ (shr a).getD k none = some (refA a k - 2) ∧ 2 ≤ refA a k) := by decide +kernel
theorem shr_ref {a k r c : Nat} (hc : (sh a).1 = 10 + c) (hk : k < 45) (h : (shr a).getD k none = some r) : refA a k = r + 2 := by
  have := shr_ok a (sh_obj hc) k hk
  rw [h] at this
  rcases this with q | q
  · cases q
  · have := Option.some.inj q.1
    omega
def zt_getL (cn k : Nat) : Tr := fun _ _ _ K _ lv st σ => match st with | .ref a :: st => if (sh a).1 = cn then (match (shr a).getD k none with | some r => K none lv (.ref r :: st) σ | none => False) else False | _ => False
theorem ze_getL {idx ci k cn : Nat} (hd : decode M.2.1 pc = .ok (.getfield idx, 3)) (hF : Fl M.2.2.2.2 idx ci k) (hcn : 10 + ci = cn) (hk : k < 45) : Ent M (pc, pc + 3, zt_getL cn k) := by
  intro l G d K Q lv st σ hK hJ h
  refine ze_getR hd hF hcn l G d K Q lv st σ hK hJ ?_
  unfold zt_getL at h
  unfold zt_getR
  dsimp only at h ⊢
  split at h
  · next a st =>
    split at h
    · next hc =>
      split at h
      · next r hr =>
        have e := shr_ref (hc.trans hcn.symm) hk hr
        dsimp only
        rw [if_pos ⟨hc, by omega⟩, e, Nat.add_sub_cancel]
        exact h
      · exact h.elim
    · exact h.elim
  · exact h.elim
def zt_iastoreF : Tr := fun _ _ _ K _ lv st σ => match st with | .int v :: .int i :: .ref a :: st => vp_in i (lenI a) ∧ ∀ k, i.toNatClampNeg = k → K none lv st (uI σ a k v) | _ => False
theorem ze_iastoreF (hd : decode M.2.1 pc = .ok (.iastore, 1)) : Ent M (pc, pc + 1, zt_iastoreF) := by
  intro l G d K Q lv st σ hK hJ h
  refine ze_iastore hd l G d K Q lv st σ hK hJ ?_
  unfold zt_iastoreF at h
  unfold zt_iastore
  dsimp only at h ⊢
  split at h
  · exact ⟨h.1, h.2 _ rfl⟩
  · exact h.elim
def zt_bastoreF : Tr := fun _ _ _ K _ lv st σ => match st with | .int v :: .int i :: .ref a :: st => vp_in i (lenB a) ∧ ∀ k, i.toNatClampNeg = k → K none lv st (uI σ a k (v.toInt8.toInt32)) | _ => False
theorem ze_bastoreF (hd : decode M.2.1 pc = .ok (.bastore, 1)) : Ent M (pc, pc + 1, zt_bastoreF) := by
  intro l G d K Q lv st σ hK hJ h
  refine ze_bastore hd l G d K Q lv st σ hK hJ ?_
  unfold zt_bastoreF at h
  unfold zt_bastore
  dsimp only at h ⊢
  split at h
  · exact ⟨h.1, h.2 _ rfl⟩
  · exact h.elim
def zt_lastoreF : Tr := fun _ _ _ K _ lv st σ => match st with | .long v :: .int i :: .ref a :: st => vp_in i (lenJ a) ∧ ∀ k, i.toNatClampNeg = k → K none lv st (uJ σ a k v) | _ => False
theorem ze_lastoreF (hd : decode M.2.1 pc = .ok (.lastore, 1)) : Ent M (pc, pc + 1, zt_lastoreF) := by
  intro l G d K Q lv st σ hK hJ h
  refine ze_lastore hd l G d K Q lv st σ hK hJ ?_
  unfold zt_lastoreF at h
  unfold zt_lastore
  dsimp only at h ⊢
  split at h
  · exact ⟨h.1, h.2 _ rfl⟩
  · exact h.elim
end Ops3
