-- the instructions: transformers and their soundness
section Ops
variable {M : Me} {pc : Nat}
def zt_ic (v : Int32) : Tr := fun _ _ _ K _ lv st σ => K none lv (.int v :: st) σ
theorem ze_iconst {n : Int} {v : Int32} (hd : decode M.2.1 pc = .ok (.iconst n, 1)) (hv : Int32.ofInt n = v) : Ent M (pc, pc + 1, zt_ic v) := by
  intro l G d K Q lv st σ hK hJ h p e s m args below meth c H locs ls C hP hS hl
  obtain ⟨hx, hb, hr, hml, hown, hts, hlocks, hKx⟩ := id C
  exact lv_iconst hx hb hd hv (hK _ _ _ h p e s m args below meth c H locs ls C hP hS hl)
theorem ze_bipush {n : Int} {v : Int32} (hd : decode M.2.1 pc = .ok (.bipush n, 2)) (hv : (Int8.ofInt n).toInt32 = v) : Ent M (pc, pc + 2, zt_ic v) := by
  intro l G d K Q lv st σ hK hJ h p e s m args below meth c H locs ls C hP hS hl
  obtain ⟨hx, hb, hr, hml, hown, hts, hlocks, hKx⟩ := id C
  exact lv_bipush hx hb hd hv (hK _ _ _ h p e s m args below meth c H locs ls C hP hS hl)
theorem ze_sipush {n : Int} {v : Int32} (hd : decode M.2.1 pc = .ok (.sipush n, 3)) (hv : (Int16.ofInt n).toInt32 = v) : Ent M (pc, pc + 3, zt_ic v) := by
  intro l G d K Q lv st σ hK hJ h p e s m args below meth c H locs ls C hP hS hl
  obtain ⟨hx, hb, hr, hml, hown, hts, hlocks, hKx⟩ := id C
  exact lv_sipush hx hb hd hv (hK _ _ _ h p e s m args below meth c H locs ls C hP hS hl)
theorem ze_ldc {i : Nat} {v : Int32} (hd : decode M.2.1 pc = .ok (.ldc i, 2)) (hw : Cond.constant M.2.2.2.2 i v ∈ gW) : Ent M (pc, pc + 2, zt_ic v) := by
  intro l G d K Q lv st σ hK hJ h p e s m args below meth c H locs ls C hP hS hl
  obtain ⟨hx, hb, hr, hml, hown, hts, hlocks, hKx⟩ := id C
  exact lv_ldc hx hb hown (hts _ hw) hd (hK _ _ _ h p e s m args below meth c H locs ls C hP hS hl)
theorem ze_ldcw {i : Nat} {v : Int32} (hd : decode M.2.1 pc = .ok (.ldc_w i, 3)) (hw : Cond.constant M.2.2.2.2 i v ∈ gW) : Ent M (pc, pc + 3, zt_ic v) := by
  intro l G d K Q lv st σ hK hJ h p e s m args below meth c H locs ls C hP hS hl
  obtain ⟨hx, hb, hr, hml, hown, hts, hlocks, hKx⟩ := id C
  exact lv_ldcw hx hb hown (hts _ hw) hd (hK _ _ _ h p e s m args below meth c H locs ls C hP hS hl)
def zt_lc (v : Int64) : Tr := fun _ _ _ K _ lv st σ => K none lv (.long v :: st) σ
theorem ze_lconst {n : Fin 2} {v : Int64} (hd : decode M.2.1 pc = .ok (.lconst n, 1)) (hv : Int64.ofNat (n : Nat) = v) : Ent M (pc, pc + 1, zt_lc v) := by
  intro l G d K Q lv st σ hK hJ h p e s m args below meth c H locs ls C hP hS hl
  obtain ⟨hx, hb, hr, hml, hown, hts, hlocks, hKx⟩ := id C
  exact lv_lconst hx hb hd hv (hK _ _ _ h p e s m args below meth c H locs ls C hP hS hl)
theorem ze_ldc2 {i : Nat} {v : Int64} (hd : decode M.2.1 pc = .ok (.ldc2_w i, 3)) (hw : Cond.constantLong M.2.2.2.2 i v ∈ gW) : Ent M (pc, pc + 3, zt_lc v) := by
  intro l G d K Q lv st σ hK hJ h p e s m args below meth c H locs ls C hP hS hl
  obtain ⟨hx, hb, hr, hml, hown, hts, hlocks, hKx⟩ := id C
  exact lv_ldc2 hx hb hown (hts _ hw) hd (hK _ _ _ h p e s m args below meth c H locs ls C hP hS hl)
def zt_iload (i : Nat) : Tr := fun _ _ _ K _ lv st σ => match lk lv i with | some (.int x) => K none lv (.int x :: st) σ | _ => False
theorem ze_iload {i : Nat} (hd : decode M.2.1 pc = .ok (.iload i, 2)) : Ent M (pc, pc + 2, zt_iload i) := by
  intro l G d K Q lv st σ hK hJ h p e s m args below meth c H locs ls C hP hS hl
  obtain ⟨hx, hb, hr, hml, hown, hts, hlocks, hKx⟩ := id C
  unfold zt_iload at h
  dsimp only at h
  split at h
  · next x hx1 => exact lv_iload hx hb hd (lk_at hl hx1) (hK _ _ _ h p e s m args below meth c H locs ls C hP hS hl)
  · exact h.elim
theorem ze_iload_n {i : Nat} {k : Fin 4} (hd : decode M.2.1 pc = .ok (.iload_n k, 1)) (hi : (k : Nat) = i) : Ent M (pc, pc + 1, zt_iload i) := by
  intro l G d K Q lv st σ hK hJ h p e s m args below meth c H locs ls C hP hS hl
  obtain ⟨hx, hb, hr, hml, hown, hts, hlocks, hKx⟩ := id C
  unfold zt_iload at h
  dsimp only at h
  split at h
  · next x hx1 => exact lv_iload_n hx hb hd hi (lk_at hl hx1) (hK _ _ _ h p e s m args below meth c H locs ls C hP hS hl)
  · exact h.elim
def zt_lload (i : Nat) : Tr := fun _ _ _ K _ lv st σ => match lk lv i with | some (.long x) => K none lv (.long x :: st) σ | _ => False
theorem ze_lload {i : Nat} (hd : decode M.2.1 pc = .ok (.lload i, 2)) : Ent M (pc, pc + 2, zt_lload i) := by
  intro l G d K Q lv st σ hK hJ h p e s m args below meth c H locs ls C hP hS hl
  obtain ⟨hx, hb, hr, hml, hown, hts, hlocks, hKx⟩ := id C
  unfold zt_lload at h
  dsimp only at h
  split at h
  · next x hx1 => exact lv_lload hx hb hd (lk_at hl hx1) (hK _ _ _ h p e s m args below meth c H locs ls C hP hS hl)
  · exact h.elim
theorem ze_lload_n {i : Nat} {k : Fin 4} (hd : decode M.2.1 pc = .ok (.lload_n k, 1)) (hi : (k : Nat) = i) : Ent M (pc, pc + 1, zt_lload i) := by
  intro l G d K Q lv st σ hK hJ h p e s m args below meth c H locs ls C hP hS hl
  obtain ⟨hx, hb, hr, hml, hown, hts, hlocks, hKx⟩ := id C
  unfold zt_lload at h
  dsimp only at h
  split at h
  · next x hx1 => exact lv_lload_n hx hb hd hi (lk_at hl hx1) (hK _ _ _ h p e s m args below meth c H locs ls C hP hS hl)
  · exact h.elim
def zt_aload (i : Nat) : Tr := fun _ _ _ K _ lv st σ => match lk lv i with | some (.ref x) => K none lv (.ref x :: st) σ | _ => False
theorem ze_aload {i : Nat} (hd : decode M.2.1 pc = .ok (.aload i, 2)) : Ent M (pc, pc + 2, zt_aload i) := by
  intro l G d K Q lv st σ hK hJ h p e s m args below meth c H locs ls C hP hS hl
  obtain ⟨hx, hb, hr, hml, hown, hts, hlocks, hKx⟩ := id C
  unfold zt_aload at h
  dsimp only at h
  split at h
  · next x hx1 => exact lv_aload hx hb hd (lk_at hl hx1) (hK _ _ _ h p e s m args below meth c H locs ls C hP hS hl)
  · exact h.elim
theorem ze_aload_n {i : Nat} {k : Fin 4} (hd : decode M.2.1 pc = .ok (.aload_n k, 1)) (hi : (k : Nat) = i) : Ent M (pc, pc + 1, zt_aload i) := by
  intro l G d K Q lv st σ hK hJ h p e s m args below meth c H locs ls C hP hS hl
  obtain ⟨hx, hb, hr, hml, hown, hts, hlocks, hKx⟩ := id C
  unfold zt_aload at h
  dsimp only at h
  split at h
  · next x hx1 => exact lv_aload_n hx hb hd hi (lk_at hl hx1) (hK _ _ _ h p e s m args below meth c H locs ls C hP hS hl)
  · exact h.elim
def zt_istore (i : Nat) : Tr := fun _ _ _ K _ lv st σ => match st with | .int x :: st => K none (sto lv i (.int x)) st σ | _ => False
theorem ze_istore {i : Nat} (hd : decode M.2.1 pc = .ok (.istore i, 2)) (hn : i < M.2.2.1) : Ent M (pc, pc + 2, zt_istore i) := by
  intro l G d K Q lv st σ hK hJ h p e s m args below meth c H locs ls C hP hS hl
  obtain ⟨hx, hb, hr, hml, hown, hts, hlocks, hKx⟩ := id C
  unfold zt_istore at h
  dsimp only at h
  split at h
  · next x st => exact lv_istore hx hb hd hl hn rfl (fun ls2 hl2 => hK _ _ _ h p e s m args below meth c H locs ls2 C hP hS (lv_mono hl2 sto_ok))
  · exact h.elim
theorem ze_istore_n {i : Nat} {k : Fin 4} (hd : decode M.2.1 pc = .ok (.istore_n k, 1)) (hi : (k : Nat) = i) (hn : i < M.2.2.1) : Ent M (pc, pc + 1, zt_istore i) := by
  intro l G d K Q lv st σ hK hJ h p e s m args below meth c H locs ls C hP hS hl
  obtain ⟨hx, hb, hr, hml, hown, hts, hlocks, hKx⟩ := id C
  unfold zt_istore at h
  dsimp only at h
  split at h
  · next x st => exact lv_istore_n hx hb hd hi hl hn rfl (fun ls2 hl2 => hK _ _ _ h p e s m args below meth c H locs ls2 C hP hS (lv_mono hl2 sto_ok))
  · exact h.elim
def zt_astore (i : Nat) : Tr := fun _ _ _ K _ lv st σ => match st with | .ref x :: st => K none (sto lv i (.ref x)) st σ | _ => False
theorem ze_astore {i : Nat} (hd : decode M.2.1 pc = .ok (.astore i, 2)) (hn : i < M.2.2.1) : Ent M (pc, pc + 2, zt_astore i) := by
  intro l G d K Q lv st σ hK hJ h p e s m args below meth c H locs ls C hP hS hl
  obtain ⟨hx, hb, hr, hml, hown, hts, hlocks, hKx⟩ := id C
  unfold zt_astore at h
  dsimp only at h
  split at h
  · next x st => exact lv_astore hx hb hd hl hn rfl (fun ls2 hl2 => hK _ _ _ h p e s m args below meth c H locs ls2 C hP hS (lv_mono hl2 sto_ok))
  · exact h.elim
theorem ze_astore_n {i : Nat} {k : Fin 4} (hd : decode M.2.1 pc = .ok (.astore_n k, 1)) (hi : (k : Nat) = i) (hn : i < M.2.2.1) : Ent M (pc, pc + 1, zt_astore i) := by
  intro l G d K Q lv st σ hK hJ h p e s m args below meth c H locs ls C hP hS hl
  obtain ⟨hx, hb, hr, hml, hown, hts, hlocks, hKx⟩ := id C
  unfold zt_astore at h
  dsimp only at h
  split at h
  · next x st => exact lv_astore_n hx hb hd hi hl hn rfl (fun ls2 hl2 => hK _ _ _ h p e s m args below meth c H locs ls2 C hP hS (lv_mono hl2 sto_ok))
  · exact h.elim
def zt_lstore (i : Nat) : Tr := fun _ _ _ K _ lv st σ => match st with | .long x :: st => K none (sto2 lv i (.long x)) st σ | _ => False
theorem ze_lstore {i : Nat} (hd : decode M.2.1 pc = .ok (.lstore i, 2)) (hn : i + 1 < M.2.2.1) : Ent M (pc, pc + 2, zt_lstore i) := by
  intro l G d K Q lv st σ hK hJ h p e s m args below meth c H locs ls C hP hS hl
  obtain ⟨hx, hb, hr, hml, hown, hts, hlocks, hKx⟩ := id C
  unfold zt_lstore at h
  dsimp only at h
  split at h
  · next x st => exact lv_lstore hx hb hd hl hn rfl (fun ls2 hl2 => hK _ _ _ h p e s m args below meth c H locs ls2 C hP hS (lv_mono hl2 sto2_ok))
  · exact h.elim
theorem ze_lstore_n {i : Nat} {k : Fin 4} (hd : decode M.2.1 pc = .ok (.lstore_n k, 1)) (hi : (k : Nat) = i) (hn : i + 1 < M.2.2.1) : Ent M (pc, pc + 1, zt_lstore i) := by
  intro l G d K Q lv st σ hK hJ h p e s m args below meth c H locs ls C hP hS hl
  obtain ⟨hx, hb, hr, hml, hown, hts, hlocks, hKx⟩ := id C
  unfold zt_lstore at h
  dsimp only at h
  split at h
  · next x st => exact lv_lstore_n hx hb hd hi hl hn rfl (fun ls2 hl2 => hK _ _ _ h p e s m args below meth c H locs ls2 C hP hS (lv_mono hl2 sto2_ok))
  · exact h.elim
def zt_iinc (i : Nat) (n : Int32) : Tr := fun _ _ _ K _ lv st σ => match lk lv i with | some (.int x) => K none (sto lv i (.int (x + n))) st σ | _ => False
theorem ze_iinc {i : Nat} {n : Int} {v : Int32} (hd : decode M.2.1 pc = .ok (.iinc i n, 3)) (hv : Int32.ofInt n = v) (hn : i < M.2.2.1) : Ent M (pc, pc + 3, zt_iinc i v) := by
  intro l G d K Q lv st σ hK hJ h p e s m args below meth c H locs ls C hP hS hl
  obtain ⟨hx, hb, hr, hml, hown, hts, hlocks, hKx⟩ := id C
  unfold zt_iinc at h
  dsimp only at h
  split at h
  · next x hx1 =>
      subst hv
      obtain ⟨k, hk⟩ := List.getElem?_of_mem (List.mem_map.mpr ⟨(i, Value.int x), lk_mem hx1, rfl⟩ : (i, Value.int x) ∈ lv.map (tl G))
      exact lv_iinc hx hb hd hl hk rfl hn rfl (fun ls2 hl2 => hK _ _ _ h p e s m args below meth c H locs ls2 C hP hS (lv_mono hl2 sto_ok))
  · exact h.elim
def zt_iadd : Tr := fun _ _ _ K _ lv st σ => match st with | .int y :: .int x :: st => K none lv (.int (x + y) :: st) σ | _ => False
theorem ze_iadd (hd : decode M.2.1 pc = .ok (.iadd, 1)) : Ent M (pc, pc + 1, zt_iadd) := by
  intro l G d K Q lv st σ hK hJ h p e s m args below meth c H locs ls C hP hS hl
  obtain ⟨hx, hb, hr, hml, hown, hts, hlocks, hKx⟩ := id C
  unfold zt_iadd at h
  dsimp only at h
  split at h
  · next y x st => exact lv_iadd hx hb hd (hK _ _ _ h p e s m args below meth c H locs ls C hP hS hl)
  · exact h.elim
def zt_isub : Tr := fun _ _ _ K _ lv st σ => match st with | .int y :: .int x :: st => K none lv (.int (x - y) :: st) σ | _ => False
theorem ze_isub (hd : decode M.2.1 pc = .ok (.isub, 1)) : Ent M (pc, pc + 1, zt_isub) := by
  intro l G d K Q lv st σ hK hJ h p e s m args below meth c H locs ls C hP hS hl
  obtain ⟨hx, hb, hr, hml, hown, hts, hlocks, hKx⟩ := id C
  unfold zt_isub at h
  dsimp only at h
  split at h
  · next y x st => exact lv_isub hx hb hd (hK _ _ _ h p e s m args below meth c H locs ls C hP hS hl)
  · exact h.elim
def zt_imul : Tr := fun _ _ _ K _ lv st σ => match st with | .int y :: .int x :: st => K none lv (.int (x * y) :: st) σ | _ => False
theorem ze_imul (hd : decode M.2.1 pc = .ok (.imul, 1)) : Ent M (pc, pc + 1, zt_imul) := by
  intro l G d K Q lv st σ hK hJ h p e s m args below meth c H locs ls C hP hS hl
  obtain ⟨hx, hb, hr, hml, hown, hts, hlocks, hKx⟩ := id C
  unfold zt_imul at h
  dsimp only at h
  split at h
  · next y x st => exact lv_imul hx hb hd (hK _ _ _ h p e s m args below meth c H locs ls C hP hS hl)
  · exact h.elim
def zt_iand : Tr := fun _ _ _ K _ lv st σ => match st with | .int y :: .int x :: st => K none lv (.int (x &&& y) :: st) σ | _ => False
theorem ze_iand (hd : decode M.2.1 pc = .ok (.iand, 1)) : Ent M (pc, pc + 1, zt_iand) := by
  intro l G d K Q lv st σ hK hJ h p e s m args below meth c H locs ls C hP hS hl
  obtain ⟨hx, hb, hr, hml, hown, hts, hlocks, hKx⟩ := id C
  unfold zt_iand at h
  dsimp only at h
  split at h
  · next y x st => exact lv_iand hx hb hd (hK _ _ _ h p e s m args below meth c H locs ls C hP hS hl)
  · exact h.elim
def zt_ior : Tr := fun _ _ _ K _ lv st σ => match st with | .int y :: .int x :: st => K none lv (.int (x ||| y) :: st) σ | _ => False
theorem ze_ior (hd : decode M.2.1 pc = .ok (.ior, 1)) : Ent M (pc, pc + 1, zt_ior) := by
  intro l G d K Q lv st σ hK hJ h p e s m args below meth c H locs ls C hP hS hl
  obtain ⟨hx, hb, hr, hml, hown, hts, hlocks, hKx⟩ := id C
  unfold zt_ior at h
  dsimp only at h
  split at h
  · next y x st => exact lv_ior hx hb hd (hK _ _ _ h p e s m args below meth c H locs ls C hP hS hl)
  · exact h.elim
def zt_ixor : Tr := fun _ _ _ K _ lv st σ => match st with | .int y :: .int x :: st => K none lv (.int (x ^^^ y) :: st) σ | _ => False
theorem ze_ixor (hd : decode M.2.1 pc = .ok (.ixor, 1)) : Ent M (pc, pc + 1, zt_ixor) := by
  intro l G d K Q lv st σ hK hJ h p e s m args below meth c H locs ls C hP hS hl
  obtain ⟨hx, hb, hr, hml, hown, hts, hlocks, hKx⟩ := id C
  unfold zt_ixor at h
  dsimp only at h
  split at h
  · next y x st => exact lv_ixor hx hb hd (hK _ _ _ h p e s m args below meth c H locs ls C hP hS hl)
  · exact h.elim
def zt_ishl : Tr := fun _ _ _ K _ lv st σ => match st with | .int y :: .int x :: st => K none lv (.int (x <<< (y &&& 31)) :: st) σ | _ => False
theorem ze_ishl (hd : decode M.2.1 pc = .ok (.ishl, 1)) : Ent M (pc, pc + 1, zt_ishl) := by
  intro l G d K Q lv st σ hK hJ h p e s m args below meth c H locs ls C hP hS hl
  obtain ⟨hx, hb, hr, hml, hown, hts, hlocks, hKx⟩ := id C
  unfold zt_ishl at h
  dsimp only at h
  split at h
  · next y x st => exact lv_ishl hx hb hd (hK _ _ _ h p e s m args below meth c H locs ls C hP hS hl)
  · exact h.elim
def zt_ishr : Tr := fun _ _ _ K _ lv st σ => match st with | .int y :: .int x :: st => K none lv (.int (x >>> (y &&& 31)) :: st) σ | _ => False
theorem ze_ishr (hd : decode M.2.1 pc = .ok (.ishr, 1)) : Ent M (pc, pc + 1, zt_ishr) := by
  intro l G d K Q lv st σ hK hJ h p e s m args below meth c H locs ls C hP hS hl
  obtain ⟨hx, hb, hr, hml, hown, hts, hlocks, hKx⟩ := id C
  unfold zt_ishr at h
  dsimp only at h
  split at h
  · next y x st => exact lv_ishr hx hb hd (hK _ _ _ h p e s m args below meth c H locs ls C hP hS hl)
  · exact h.elim
def zt_ladd : Tr := fun _ _ _ K _ lv st σ => match st with | .long y :: .long x :: st => K none lv (.long (x + y) :: st) σ | _ => False
theorem ze_ladd (hd : decode M.2.1 pc = .ok (.ladd, 1)) : Ent M (pc, pc + 1, zt_ladd) := by
  intro l G d K Q lv st σ hK hJ h p e s m args below meth c H locs ls C hP hS hl
  obtain ⟨hx, hb, hr, hml, hown, hts, hlocks, hKx⟩ := id C
  unfold zt_ladd at h
  dsimp only at h
  split at h
  · next y x st => exact lv_ladd hx hb hd (hK _ _ _ h p e s m args below meth c H locs ls C hP hS hl)
  · exact h.elim
def zt_lsub : Tr := fun _ _ _ K _ lv st σ => match st with | .long y :: .long x :: st => K none lv (.long (x - y) :: st) σ | _ => False
theorem ze_lsub (hd : decode M.2.1 pc = .ok (.lsub, 1)) : Ent M (pc, pc + 1, zt_lsub) := by
  intro l G d K Q lv st σ hK hJ h p e s m args below meth c H locs ls C hP hS hl
  obtain ⟨hx, hb, hr, hml, hown, hts, hlocks, hKx⟩ := id C
  unfold zt_lsub at h
  dsimp only at h
  split at h
  · next y x st => exact lv_lsub hx hb hd (hK _ _ _ h p e s m args below meth c H locs ls C hP hS hl)
  · exact h.elim
def zt_lmul : Tr := fun _ _ _ K _ lv st σ => match st with | .long y :: .long x :: st => K none lv (.long (x * y) :: st) σ | _ => False
theorem ze_lmul (hd : decode M.2.1 pc = .ok (.lmul, 1)) : Ent M (pc, pc + 1, zt_lmul) := by
  intro l G d K Q lv st σ hK hJ h p e s m args below meth c H locs ls C hP hS hl
  obtain ⟨hx, hb, hr, hml, hown, hts, hlocks, hKx⟩ := id C
  unfold zt_lmul at h
  dsimp only at h
  split at h
  · next y x st => exact lv_lmul hx hb hd (hK _ _ _ h p e s m args below meth c H locs ls C hP hS hl)
  · exact h.elim
def zt_land : Tr := fun _ _ _ K _ lv st σ => match st with | .long y :: .long x :: st => K none lv (.long (x &&& y) :: st) σ | _ => False
theorem ze_land (hd : decode M.2.1 pc = .ok (.land, 1)) : Ent M (pc, pc + 1, zt_land) := by
  intro l G d K Q lv st σ hK hJ h p e s m args below meth c H locs ls C hP hS hl
  obtain ⟨hx, hb, hr, hml, hown, hts, hlocks, hKx⟩ := id C
  unfold zt_land at h
  dsimp only at h
  split at h
  · next y x st => exact lv_land hx hb hd (hK _ _ _ h p e s m args below meth c H locs ls C hP hS hl)
  · exact h.elim
def zt_lor : Tr := fun _ _ _ K _ lv st σ => match st with | .long y :: .long x :: st => K none lv (.long (x ||| y) :: st) σ | _ => False
theorem ze_lor (hd : decode M.2.1 pc = .ok (.lor, 1)) : Ent M (pc, pc + 1, zt_lor) := by
  intro l G d K Q lv st σ hK hJ h p e s m args below meth c H locs ls C hP hS hl
  obtain ⟨hx, hb, hr, hml, hown, hts, hlocks, hKx⟩ := id C
  unfold zt_lor at h
  dsimp only at h
  split at h
  · next y x st => exact lv_lor hx hb hd (hK _ _ _ h p e s m args below meth c H locs ls C hP hS hl)
  · exact h.elim
def zt_idiv : Tr := fun _ _ _ K _ lv st σ => match st with | .int y :: .int x :: st => (¬ y = 0) ∧ K none lv (.int (x / y) :: st) σ | _ => False
theorem ze_idiv (hd : decode M.2.1 pc = .ok (.idiv, 1)) : Ent M (pc, pc + 1, zt_idiv) := by
  intro l G d K Q lv st σ hK hJ h p e s m args below meth c H locs ls C hP hS hl
  obtain ⟨hx, hb, hr, hml, hown, hts, hlocks, hKx⟩ := id C
  unfold zt_idiv at h
  dsimp only at h
  split at h
  · next y x st => exact lv_idiv hx hb hd h.1 (hK _ _ _ h.2 p e s m args below meth c H locs ls C hP hS hl)
  · exact h.elim
def zt_irem : Tr := fun _ _ _ K _ lv st σ => match st with | .int y :: .int x :: st => (¬ y = 0) ∧ K none lv (.int (x - x / y * y) :: st) σ | _ => False
theorem ze_irem (hd : decode M.2.1 pc = .ok (.irem, 1)) : Ent M (pc, pc + 1, zt_irem) := by
  intro l G d K Q lv st σ hK hJ h p e s m args below meth c H locs ls C hP hS hl
  obtain ⟨hx, hb, hr, hml, hown, hts, hlocks, hKx⟩ := id C
  unfold zt_irem at h
  dsimp only at h
  split at h
  · next y x st => exact lv_irem hx hb hd h.1 (hK _ _ _ h.2 p e s m args below meth c H locs ls C hP hS hl)
  · exact h.elim
def zt_ldiv : Tr := fun _ _ _ K _ lv st σ => match st with | .long y :: .long x :: st => (¬ y = 0) ∧ K none lv (.long (x / y) :: st) σ | _ => False
theorem ze_ldiv (hd : decode M.2.1 pc = .ok (.ldiv, 1)) : Ent M (pc, pc + 1, zt_ldiv) := by
  intro l G d K Q lv st σ hK hJ h p e s m args below meth c H locs ls C hP hS hl
  obtain ⟨hx, hb, hr, hml, hown, hts, hlocks, hKx⟩ := id C
  unfold zt_ldiv at h
  dsimp only at h
  split at h
  · next y x st => exact lv_ldiv hx hb hd h.1 (hK _ _ _ h.2 p e s m args below meth c H locs ls C hP hS hl)
  · exact h.elim
def zt_lrem : Tr := fun _ _ _ K _ lv st σ => match st with | .long y :: .long x :: st => (¬ y = 0) ∧ K none lv (.long (x - x / y * y) :: st) σ | _ => False
theorem ze_lrem (hd : decode M.2.1 pc = .ok (.lrem, 1)) : Ent M (pc, pc + 1, zt_lrem) := by
  intro l G d K Q lv st σ hK hJ h p e s m args below meth c H locs ls C hP hS hl
  obtain ⟨hx, hb, hr, hml, hown, hts, hlocks, hKx⟩ := id C
  unfold zt_lrem at h
  dsimp only at h
  split at h
  · next y x st => exact lv_lrem hx hb hd h.1 (hK _ _ _ h.2 p e s m args below meth c H locs ls C hP hS hl)
  · exact h.elim
def zt_ineg : Tr := fun _ _ _ K _ lv st σ => match st with | .int x :: st => K none lv (.int (-x) :: st) σ | _ => False
theorem ze_ineg (hd : decode M.2.1 pc = .ok (.ineg, 1)) : Ent M (pc, pc + 1, zt_ineg) := by
  intro l G d K Q lv st σ hK hJ h p e s m args below meth c H locs ls C hP hS hl
  obtain ⟨hx, hb, hr, hml, hown, hts, hlocks, hKx⟩ := id C
  unfold zt_ineg at h
  dsimp only at h
  split at h
  · next x st => exact lv_ineg hx hb hd (hK _ _ _ h p e s m args below meth c H locs ls C hP hS hl)
  · exact h.elim
def zt_i2l : Tr := fun _ _ _ K _ lv st σ => match st with | .int x :: st => K none lv (.long (x.toInt64) :: st) σ | _ => False
theorem ze_i2l (hd : decode M.2.1 pc = .ok (.i2l, 1)) : Ent M (pc, pc + 1, zt_i2l) := by
  intro l G d K Q lv st σ hK hJ h p e s m args below meth c H locs ls C hP hS hl
  obtain ⟨hx, hb, hr, hml, hown, hts, hlocks, hKx⟩ := id C
  unfold zt_i2l at h
  dsimp only at h
  split at h
  · next x st => exact lv_i2l hx hb hd rfl (hK _ _ _ h p e s m args below meth c H locs ls C hP hS hl)
  · exact h.elim
def zt_l2i : Tr := fun _ _ _ K _ lv st σ => match st with | .long x :: st => K none lv (.int (x.toInt32) :: st) σ | _ => False
theorem ze_l2i (hd : decode M.2.1 pc = .ok (.l2i, 1)) : Ent M (pc, pc + 1, zt_l2i) := by
  intro l G d K Q lv st σ hK hJ h p e s m args below meth c H locs ls C hP hS hl
  obtain ⟨hx, hb, hr, hml, hown, hts, hlocks, hKx⟩ := id C
  unfold zt_l2i at h
  dsimp only at h
  split at h
  · next x st => exact lv_l2i hx hb hd rfl (hK _ _ _ h p e s m args below meth c H locs ls C hP hS hl)
  · exact h.elim
def zt_i2b : Tr := fun _ _ _ K _ lv st σ => match st with | .int x :: st => K none lv (.int (x.toInt8.toInt32) :: st) σ | _ => False
theorem ze_i2b (hd : decode M.2.1 pc = .ok (.i2b, 1)) : Ent M (pc, pc + 1, zt_i2b) := by
  intro l G d K Q lv st σ hK hJ h p e s m args below meth c H locs ls C hP hS hl
  obtain ⟨hx, hb, hr, hml, hown, hts, hlocks, hKx⟩ := id C
  unfold zt_i2b at h
  dsimp only at h
  split at h
  · next x st => exact lv_i2b hx hb hd rfl (hK _ _ _ h p e s m args below meth c H locs ls C hP hS hl)
  · exact h.elim
def zt_iushr : Tr := fun _ _ _ K _ lv st σ => match st with | .int y :: .int x :: st => K none lv (.int ((x.toUInt32 >>> (y.toUInt32 &&& Int32.toUInt32 31)).toInt32) :: st) σ | _ => False
theorem ze_iushr (hd : decode M.2.1 pc = .ok (.iushr, 1)) : Ent M (pc, pc + 1, zt_iushr) := by
  intro l G d K Q lv st σ hK hJ h p e s m args below meth c H locs ls C hP hS hl
  obtain ⟨hx, hb, hr, hml, hown, hts, hlocks, hKx⟩ := id C
  unfold zt_iushr at h
  dsimp only at h
  split at h
  · next y x st => exact lv_iushr hx hb hd rfl (hK _ _ _ h p e s m args below meth c H locs ls C hP hS hl)
  · exact h.elim
def zt_lushr : Tr := fun _ _ _ K _ lv st σ => match st with | .int y :: .long x :: st => K none lv (.long ((x.toUInt64 >>> (y.toInt64.toUInt64 &&& Int64.toUInt64 63)).toInt64) :: st) σ | _ => False
theorem ze_lushr (hd : decode M.2.1 pc = .ok (.lushr, 1)) : Ent M (pc, pc + 1, zt_lushr) := by
  intro l G d K Q lv st σ hK hJ h p e s m args below meth c H locs ls C hP hS hl
  obtain ⟨hx, hb, hr, hml, hown, hts, hlocks, hKx⟩ := id C
  unfold zt_lushr at h
  dsimp only at h
  split at h
  · next y x st => exact lv_lushr hx hb hd rfl (hK _ _ _ h p e s m args below meth c H locs ls C hP hS hl)
  · exact h.elim
def zt_lshl : Tr := fun _ _ _ K _ lv st σ => match st with | .int y :: .long x :: st => K none lv (.long (x <<< (y.toInt64 &&& 63)) :: st) σ | _ => False
theorem ze_lshl (hd : decode M.2.1 pc = .ok (.lshl, 1)) : Ent M (pc, pc + 1, zt_lshl) := by
  intro l G d K Q lv st σ hK hJ h p e s m args below meth c H locs ls C hP hS hl
  obtain ⟨hx, hb, hr, hml, hown, hts, hlocks, hKx⟩ := id C
  unfold zt_lshl at h
  dsimp only at h
  split at h
  · next y x st => exact lv_lshl hx hb hd rfl (hK _ _ _ h p e s m args below meth c H locs ls C hP hS hl)
  · exact h.elim
def zt_lcmp : Tr := fun _ _ _ K _ lv st σ => match st with | .long y :: .long x :: st => K none lv (.int (lg_cmp x y) :: st) σ | _ => False
theorem ze_lcmp (hd : decode M.2.1 pc = .ok (.lcmp, 1)) : Ent M (pc, pc + 1, zt_lcmp) := by
  intro l G d K Q lv st σ hK hJ h p e s m args below meth c H locs ls C hP hS hl
  obtain ⟨hx, hb, hr, hml, hown, hts, hlocks, hKx⟩ := id C
  unfold zt_lcmp at h
  dsimp only at h
  split at h
  · next y x st => exact W.lcmp hx hb hd (hK _ _ _ h p e s m args below meth c H locs ls C hP hS hl)
  · exact h.elim
def zt_dup : Tr := fun _ _ _ K _ lv st σ => match st with | v :: st => if v.category = 1 then K none lv (v :: v :: st) σ else False | _ => False
theorem ze_dup (hd : decode M.2.1 pc = .ok (.dup, 1)) : Ent M (pc, pc + 1, zt_dup) := by
  intro l G d K Q lv st σ hK hJ h p e s m args below meth c H locs ls C hP hS hl
  obtain ⟨hx, hb, hr, hml, hown, hts, hlocks, hKx⟩ := id C
  unfold zt_dup at h
  dsimp only at h
  split at h
  · next v st =>
    split at h
    · next hv => exact lv_dup hx hb hd (by rw [tv_cat]; exact hv) (hK _ _ _ h p e s m args below meth c H locs ls C hP hS hl)
    · exact h.elim
  · exact h.elim
def zt_pop : Tr := fun _ _ _ K _ lv st σ => match st with | v :: st => if v.category = 1 then K none lv st σ else False | _ => False
theorem ze_pop (hd : decode M.2.1 pc = .ok (.pop, 1)) : Ent M (pc, pc + 1, zt_pop) := by
  intro l G d K Q lv st σ hK hJ h p e s m args below meth c H locs ls C hP hS hl
  obtain ⟨hx, hb, hr, hml, hown, hts, hlocks, hKx⟩ := id C
  unfold zt_pop at h
  dsimp only at h
  split at h
  · next v st =>
    split at h
    · next hv => exact lv_pop hx hb hd (by rw [tv_cat]; exact hv) (hK _ _ _ h p e s m args below meth c H locs ls C hP hS hl)
    · exact h.elim
  · exact h.elim
def zt_dup2 : Tr := fun _ _ _ K _ lv st σ => match st with | v :: w :: st => if v.category = 1 ∧ w.category = 1 then K none lv (v :: w :: v :: w :: st) σ else False | _ => False
theorem ze_dup2 (hd : decode M.2.1 pc = .ok (.dup2, 1)) : Ent M (pc, pc + 1, zt_dup2) := by
  intro l G d K Q lv st σ hK hJ h p e s m args below meth c H locs ls C hP hS hl
  obtain ⟨hx, hb, hr, hml, hown, hts, hlocks, hKx⟩ := id C
  unfold zt_dup2 at h
  dsimp only at h
  split at h
  · next v w st =>
    split at h
    · next hv => exact lv_dup2_11 hx hb hd (by rw [tv_cat]; exact hv.1) (by rw [tv_cat]; exact hv.2) (hK _ _ _ h p e s m args below meth c H locs ls C hP hS hl)
    · exact h.elim
  · exact h.elim
def zt_goto (t : Nat) : Tr := fun _ _ _ K _ lv st σ => K (some t) lv st σ
theorem ze_goto {off : Int} {t : Nat} (hd : decode M.2.1 pc = .ok (.goto off, 3)) (ht : (pc : Int) + off = (t : Int)) : Ent M (pc, pc + 3, zt_goto t) := by
  intro l G d K Q lv st σ hK hJ h p e s m args below meth c H locs ls C hP hS hl
  obtain ⟨hx, hb, hr, hml, hown, hts, hlocks, hKx⟩ := id C
  exact lv_goto hx hb hd ht (hJ _ _ _ _ h p e s m args below meth c H locs ls C hP hS hl)
def zt_if_eq (t : Nat) : Tr := fun _ _ _ K _ lv st σ => match st with | .int x :: st => (x = 0 → K (some t) lv st σ) ∧ (¬ x = 0 → K none lv st σ) | _ => False
theorem ze_if_eq {off : Int} {t : Nat} (hd : decode M.2.1 pc = .ok (.ifCond .eq off, 3)) (ht : (pc : Int) + off = (t : Int)) : Ent M (pc, pc + 3, zt_if_eq t) := by
  intro l G d K Q lv st σ hK hJ h p e s m args below meth c H locs ls C hP hS hl
  obtain ⟨hx, hb, hr, hml, hown, hts, hlocks, hKx⟩ := id C
  unfold zt_if_eq at h
  dsimp only at h
  split at h
  · next x st => exact lv_if_eq hx hb hd ht (fun q => hJ _ _ _ _ (h.1 q) p e s m args below meth c H locs ls C hP hS hl) (fun q => hK _ _ _ (h.2 q) p e s m args below meth c H locs ls C hP hS hl)
  · exact h.elim
def zt_icmp_eq (t : Nat) : Tr := fun _ _ _ K _ lv st σ => match st with | .int y :: .int x :: st => (x = y → K (some t) lv st σ) ∧ (¬ x = y → K none lv st σ) | _ => False
theorem ze_icmp_eq {off : Int} {t : Nat} (hd : decode M.2.1 pc = .ok (.if_icmp .eq off, 3)) (ht : (pc : Int) + off = (t : Int)) : Ent M (pc, pc + 3, zt_icmp_eq t) := by
  intro l G d K Q lv st σ hK hJ h p e s m args below meth c H locs ls C hP hS hl
  obtain ⟨hx, hb, hr, hml, hown, hts, hlocks, hKx⟩ := id C
  unfold zt_icmp_eq at h
  dsimp only at h
  split at h
  · next y x st => exact lv_icmp_eq hx hb hd ht (fun q => hJ _ _ _ _ (h.1 q) p e s m args below meth c H locs ls C hP hS hl) (fun q => hK _ _ _ (h.2 q) p e s m args below meth c H locs ls C hP hS hl)
  · exact h.elim
def zt_if_ne (t : Nat) : Tr := fun _ _ _ K _ lv st σ => match st with | .int x :: st => (x = 0 → K none lv st σ) ∧ (¬ x = 0 → K (some t) lv st σ) | _ => False
theorem ze_if_ne {off : Int} {t : Nat} (hd : decode M.2.1 pc = .ok (.ifCond .ne off, 3)) (ht : (pc : Int) + off = (t : Int)) : Ent M (pc, pc + 3, zt_if_ne t) := by
  intro l G d K Q lv st σ hK hJ h p e s m args below meth c H locs ls C hP hS hl
  obtain ⟨hx, hb, hr, hml, hown, hts, hlocks, hKx⟩ := id C
  unfold zt_if_ne at h
  dsimp only at h
  split at h
  · next x st => exact lv_if_ne hx hb hd ht (fun q => hJ _ _ _ _ (h.2 q) p e s m args below meth c H locs ls C hP hS hl) (fun q => hK _ _ _ (h.1 q) p e s m args below meth c H locs ls C hP hS hl)
  · exact h.elim
def zt_icmp_ne (t : Nat) : Tr := fun _ _ _ K _ lv st σ => match st with | .int y :: .int x :: st => (x = y → K none lv st σ) ∧ (¬ x = y → K (some t) lv st σ) | _ => False
theorem ze_icmp_ne {off : Int} {t : Nat} (hd : decode M.2.1 pc = .ok (.if_icmp .ne off, 3)) (ht : (pc : Int) + off = (t : Int)) : Ent M (pc, pc + 3, zt_icmp_ne t) := by
  intro l G d K Q lv st σ hK hJ h p e s m args below meth c H locs ls C hP hS hl
  obtain ⟨hx, hb, hr, hml, hown, hts, hlocks, hKx⟩ := id C
  unfold zt_icmp_ne at h
  dsimp only at h
  split at h
  · next y x st => exact lv_icmp_ne hx hb hd ht (fun q => hJ _ _ _ _ (h.2 q) p e s m args below meth c H locs ls C hP hS hl) (fun q => hK _ _ _ (h.1 q) p e s m args below meth c H locs ls C hP hS hl)
  · exact h.elim
def zt_if_lt (t : Nat) : Tr := fun _ _ _ K _ lv st σ => match st with | .int x :: st => (x < 0 → K (some t) lv st σ) ∧ (¬ x < 0 → K none lv st σ) | _ => False
theorem ze_if_lt {off : Int} {t : Nat} (hd : decode M.2.1 pc = .ok (.ifCond .lt off, 3)) (ht : (pc : Int) + off = (t : Int)) : Ent M (pc, pc + 3, zt_if_lt t) := by
  intro l G d K Q lv st σ hK hJ h p e s m args below meth c H locs ls C hP hS hl
  obtain ⟨hx, hb, hr, hml, hown, hts, hlocks, hKx⟩ := id C
  unfold zt_if_lt at h
  dsimp only at h
  split at h
  · next x st => exact lv_if_lt hx hb hd ht (fun q => hJ _ _ _ _ (h.1 q) p e s m args below meth c H locs ls C hP hS hl) (fun q => hK _ _ _ (h.2 q) p e s m args below meth c H locs ls C hP hS hl)
  · exact h.elim
def zt_icmp_lt (t : Nat) : Tr := fun _ _ _ K _ lv st σ => match st with | .int y :: .int x :: st => (x < y → K (some t) lv st σ) ∧ (¬ x < y → K none lv st σ) | _ => False
theorem ze_icmp_lt {off : Int} {t : Nat} (hd : decode M.2.1 pc = .ok (.if_icmp .lt off, 3)) (ht : (pc : Int) + off = (t : Int)) : Ent M (pc, pc + 3, zt_icmp_lt t) := by
  intro l G d K Q lv st σ hK hJ h p e s m args below meth c H locs ls C hP hS hl
  obtain ⟨hx, hb, hr, hml, hown, hts, hlocks, hKx⟩ := id C
  unfold zt_icmp_lt at h
  dsimp only at h
  split at h
  · next y x st => exact lv_icmp_lt hx hb hd ht (fun q => hJ _ _ _ _ (h.1 q) p e s m args below meth c H locs ls C hP hS hl) (fun q => hK _ _ _ (h.2 q) p e s m args below meth c H locs ls C hP hS hl)
  · exact h.elim
def zt_if_ge (t : Nat) : Tr := fun _ _ _ K _ lv st σ => match st with | .int x :: st => (0 ≤ x → K (some t) lv st σ) ∧ (¬ 0 ≤ x → K none lv st σ) | _ => False
theorem ze_if_ge {off : Int} {t : Nat} (hd : decode M.2.1 pc = .ok (.ifCond .ge off, 3)) (ht : (pc : Int) + off = (t : Int)) : Ent M (pc, pc + 3, zt_if_ge t) := by
  intro l G d K Q lv st σ hK hJ h p e s m args below meth c H locs ls C hP hS hl
  obtain ⟨hx, hb, hr, hml, hown, hts, hlocks, hKx⟩ := id C
  unfold zt_if_ge at h
  dsimp only at h
  split at h
  · next x st => exact lv_if_ge hx hb hd ht (fun q => hJ _ _ _ _ (h.1 q) p e s m args below meth c H locs ls C hP hS hl) (fun q => hK _ _ _ (h.2 q) p e s m args below meth c H locs ls C hP hS hl)
  · exact h.elim
def zt_icmp_ge (t : Nat) : Tr := fun _ _ _ K _ lv st σ => match st with | .int y :: .int x :: st => (y ≤ x → K (some t) lv st σ) ∧ (¬ y ≤ x → K none lv st σ) | _ => False
theorem ze_icmp_ge {off : Int} {t : Nat} (hd : decode M.2.1 pc = .ok (.if_icmp .ge off, 3)) (ht : (pc : Int) + off = (t : Int)) : Ent M (pc, pc + 3, zt_icmp_ge t) := by
  intro l G d K Q lv st σ hK hJ h p e s m args below meth c H locs ls C hP hS hl
  obtain ⟨hx, hb, hr, hml, hown, hts, hlocks, hKx⟩ := id C
  unfold zt_icmp_ge at h
  dsimp only at h
  split at h
  · next y x st => exact lv_icmp_ge hx hb hd ht (fun q => hJ _ _ _ _ (h.1 q) p e s m args below meth c H locs ls C hP hS hl) (fun q => hK _ _ _ (h.2 q) p e s m args below meth c H locs ls C hP hS hl)
  · exact h.elim
def zt_if_gt (t : Nat) : Tr := fun _ _ _ K _ lv st σ => match st with | .int x :: st => (0 < x → K (some t) lv st σ) ∧ (¬ 0 < x → K none lv st σ) | _ => False
theorem ze_if_gt {off : Int} {t : Nat} (hd : decode M.2.1 pc = .ok (.ifCond .gt off, 3)) (ht : (pc : Int) + off = (t : Int)) : Ent M (pc, pc + 3, zt_if_gt t) := by
  intro l G d K Q lv st σ hK hJ h p e s m args below meth c H locs ls C hP hS hl
  obtain ⟨hx, hb, hr, hml, hown, hts, hlocks, hKx⟩ := id C
  unfold zt_if_gt at h
  dsimp only at h
  split at h
  · next x st => exact lv_if_gt hx hb hd ht (fun q => hJ _ _ _ _ (h.1 q) p e s m args below meth c H locs ls C hP hS hl) (fun q => hK _ _ _ (h.2 q) p e s m args below meth c H locs ls C hP hS hl)
  · exact h.elim
def zt_icmp_gt (t : Nat) : Tr := fun _ _ _ K _ lv st σ => match st with | .int y :: .int x :: st => (y < x → K (some t) lv st σ) ∧ (¬ y < x → K none lv st σ) | _ => False
theorem ze_icmp_gt {off : Int} {t : Nat} (hd : decode M.2.1 pc = .ok (.if_icmp .gt off, 3)) (ht : (pc : Int) + off = (t : Int)) : Ent M (pc, pc + 3, zt_icmp_gt t) := by
  intro l G d K Q lv st σ hK hJ h p e s m args below meth c H locs ls C hP hS hl
  obtain ⟨hx, hb, hr, hml, hown, hts, hlocks, hKx⟩ := id C
  unfold zt_icmp_gt at h
  dsimp only at h
  split at h
  · next y x st => exact lv_icmp_gt hx hb hd ht (fun q => hJ _ _ _ _ (h.1 q) p e s m args below meth c H locs ls C hP hS hl) (fun q => hK _ _ _ (h.2 q) p e s m args below meth c H locs ls C hP hS hl)
  · exact h.elim
def zt_if_le (t : Nat) : Tr := fun _ _ _ K _ lv st σ => match st with | .int x :: st => (x ≤ 0 → K (some t) lv st σ) ∧ (¬ x ≤ 0 → K none lv st σ) | _ => False
theorem ze_if_le {off : Int} {t : Nat} (hd : decode M.2.1 pc = .ok (.ifCond .le off, 3)) (ht : (pc : Int) + off = (t : Int)) : Ent M (pc, pc + 3, zt_if_le t) := by
  intro l G d K Q lv st σ hK hJ h p e s m args below meth c H locs ls C hP hS hl
  obtain ⟨hx, hb, hr, hml, hown, hts, hlocks, hKx⟩ := id C
  unfold zt_if_le at h
  dsimp only at h
  split at h
  · next x st => exact lv_if_le hx hb hd ht (fun q => hJ _ _ _ _ (h.1 q) p e s m args below meth c H locs ls C hP hS hl) (fun q => hK _ _ _ (h.2 q) p e s m args below meth c H locs ls C hP hS hl)
  · exact h.elim
def zt_icmp_le (t : Nat) : Tr := fun _ _ _ K _ lv st σ => match st with | .int y :: .int x :: st => (x ≤ y → K (some t) lv st σ) ∧ (¬ x ≤ y → K none lv st σ) | _ => False
theorem ze_icmp_le {off : Int} {t : Nat} (hd : decode M.2.1 pc = .ok (.if_icmp .le off, 3)) (ht : (pc : Int) + off = (t : Int)) : Ent M (pc, pc + 3, zt_icmp_le t) := by
  intro l G d K Q lv st σ hK hJ h p e s m args below meth c H locs ls C hP hS hl
  obtain ⟨hx, hb, hr, hml, hown, hts, hlocks, hKx⟩ := id C
  unfold zt_icmp_le at h
  dsimp only at h
  split at h
  · next y x st => exact lv_icmp_le hx hb hd ht (fun q => hJ _ _ _ _ (h.1 q) p e s m args below meth c H locs ls C hP hS hl) (fun q => hK _ _ _ (h.2 q) p e s m args below meth c H locs ls C hP hS hl)
  · exact h.elim
def zt_iaload : Tr := fun _ _ _ K _ lv st σ => match st with | .int i :: .ref a :: st => vp_in i (lenI a) ∧ K none lv (.int (σ.1 a i.toNatClampNeg) :: st) σ | _ => False
theorem ze_iaload (hd : decode M.2.1 pc = .ok (.iaload, 1)) : Ent M (pc, pc + 1, zt_iaload) := by
  intro l G d K Q lv st σ hK hJ h p e s m args below meth c H locs ls C hP hS hl
  obtain ⟨hx, hb, hr, hml, hown, hts, hlocks, hKx⟩ := id C
  unfold zt_iaload at h
  dsimp only at h
  split at h
  · next i a st =>
    obtain ⟨h0, h1⟩ := h
    obtain ⟨q1, q2, q3⟩ := lenI_in h0
    exact va_iald hx hb hKx.1 hP a 1 ((wo_at G σ q2).trans (congrArg (fun z => some (G.2.1 a, z)) (cel_I q1))) rfl (by rw [← q3]; exact h0) hd (hK _ _ _ h1 p e s m args below meth c H locs ls C hP hS hl)
  · exact h.elim
def zt_baload : Tr := fun _ _ _ K _ lv st σ => match st with | .int i :: .ref a :: st => vp_in i (lenB a) ∧ K none lv (.int (σ.1 a i.toNatClampNeg) :: st) σ | _ => False
theorem ze_baload (hd : decode M.2.1 pc = .ok (.baload, 1)) : Ent M (pc, pc + 1, zt_baload) := by
  intro l G d K Q lv st σ hK hJ h p e s m args below meth c H locs ls C hP hS hl
  obtain ⟨hx, hb, hr, hml, hown, hts, hlocks, hKx⟩ := id C
  unfold zt_baload at h
  dsimp only at h
  split at h
  · next i a st =>
    obtain ⟨h0, h1⟩ := h
    obtain ⟨q1, q2, q3⟩ := lenB_in h0
    exact va_bald hx hb hKx.1 hP a 0 ((wo_at G σ q2).trans (congrArg (fun z => some (G.2.1 a, z)) (cel_B q1))) rfl (by rw [← q3]; exact h0) hd (hK _ _ _ h1 p e s m args below meth c H locs ls C hP hS hl)
  · exact h.elim
def zt_laload : Tr := fun _ _ _ K _ lv st σ => match st with | .int i :: .ref a :: st => vp_in i (lenJ a) ∧ K none lv (.long (σ.2 a i.toNatClampNeg) :: st) σ | _ => False
theorem ze_laload (hd : decode M.2.1 pc = .ok (.laload, 1)) : Ent M (pc, pc + 1, zt_laload) := by
  intro l G d K Q lv st σ hK hJ h p e s m args below meth c H locs ls C hP hS hl
  obtain ⟨hx, hb, hr, hml, hown, hts, hlocks, hKx⟩ := id C
  unfold zt_laload at h
  dsimp only at h
  split at h
  · next i a st =>
    obtain ⟨h0, h1⟩ := h
    obtain ⟨q1, q2, q3⟩ := lenJ_in h0
    exact va_lald hx hb hKx.1 hP a 2 ((wo_at G σ q2).trans (congrArg (fun z => some (G.2.1 a, z)) (cel_J q1))) rfl (by rw [← q3]; exact h0) hd (hK _ _ _ h1 p e s m args below meth c H locs ls C hP hS hl)
  · exact h.elim
def zt_iastore : Tr := fun _ _ _ K _ lv st σ => match st with | .int v :: .int i :: .ref a :: st => vp_in i (lenI a) ∧ K none lv st (uI σ a i.toNatClampNeg v) | _ => False
theorem ze_iastore (hd : decode M.2.1 pc = .ok (.iastore, 1)) : Ent M (pc, pc + 1, zt_iastore) := by
  intro l G d K Q lv st σ hK hJ h p e s m args below meth c H locs ls C hP hS hl
  obtain ⟨hx, hb, hr, hml, hown, hts, hlocks, hKx⟩ := id C
  unfold zt_iastore at h
  dsimp only at h
  split at h
  · next v i a st =>
    obtain ⟨h0, h1⟩ := h
    obtain ⟨q1, q2, q3⟩ := lenI_in h0
    refine va_iast hx hb hKx.1 hP (wo_D hKx σ) hS a 1 ((wo_at G σ q2).trans (congrArg (fun z => some (G.2.1 a, z)) (cel_I q1))) rfl (by rw [← q3]; exact h0) hd (fun H1 locs1 hP1 _ hS1 => ?_)
    rw [wo_set (σ' := uI σ a i.toNatClampNeg v) (by rw [cel_I q1]; simp [uI]) (fun b hb => by simp [uI, hb]) (fun b hb => by simp [uI, hb])] at hP1
    exact hK _ _ _ h1 p e s m args below meth c H1 locs1 ls C hP1 hS1 hl
  · exact h.elim
def zt_bastore : Tr := fun _ _ _ K _ lv st σ => match st with | .int v :: .int i :: .ref a :: st => vp_in i (lenB a) ∧ K none lv st (uI σ a i.toNatClampNeg (v.toInt8.toInt32)) | _ => False
theorem ze_bastore (hd : decode M.2.1 pc = .ok (.bastore, 1)) : Ent M (pc, pc + 1, zt_bastore) := by
  intro l G d K Q lv st σ hK hJ h p e s m args below meth c H locs ls C hP hS hl
  obtain ⟨hx, hb, hr, hml, hown, hts, hlocks, hKx⟩ := id C
  unfold zt_bastore at h
  dsimp only at h
  split at h
  · next v i a st =>
    obtain ⟨h0, h1⟩ := h
    obtain ⟨q1, q2, q3⟩ := lenB_in h0
    refine va_bast hx hb hKx.1 hP (wo_D hKx σ) hS a 0 ((wo_at G σ q2).trans (congrArg (fun z => some (G.2.1 a, z)) (cel_B q1))) rfl (by rw [← q3]; exact h0) hd (fun H1 locs1 hP1 _ hS1 => ?_)
    rw [vp_nar_byte] at hP1
    rw [wo_set (σ' := uI σ a i.toNatClampNeg (v.toInt8.toInt32)) (by rw [cel_B q1]; simp [uI]) (fun b hb => by simp [uI, hb]) (fun b hb => by simp [uI, hb])] at hP1
    exact hK _ _ _ h1 p e s m args below meth c H1 locs1 ls C hP1 hS1 hl
  · exact h.elim
def zt_lastore : Tr := fun _ _ _ K _ lv st σ => match st with | .long v :: .int i :: .ref a :: st => vp_in i (lenJ a) ∧ K none lv st (uJ σ a i.toNatClampNeg v) | _ => False
theorem ze_lastore (hd : decode M.2.1 pc = .ok (.lastore, 1)) : Ent M (pc, pc + 1, zt_lastore) := by
  intro l G d K Q lv st σ hK hJ h p e s m args below meth c H locs ls C hP hS hl
  obtain ⟨hx, hb, hr, hml, hown, hts, hlocks, hKx⟩ := id C
  unfold zt_lastore at h
  dsimp only at h
  split at h
  · next v i a st =>
    obtain ⟨h0, h1⟩ := h
    obtain ⟨q1, q2, q3⟩ := lenJ_in h0
    refine va_last hx hb hKx.1 hP (wo_D hKx σ) hS a 2 ((wo_at G σ q2).trans (congrArg (fun z => some (G.2.1 a, z)) (cel_J q1))) rfl (by rw [← q3]; exact h0) hd (fun H1 locs1 hP1 _ hS1 => ?_)
    rw [wo_set (σ' := uJ σ a i.toNatClampNeg v) (by rw [cel_J q1]; simp [uJ]) (fun b hb => by simp [uJ, hb]) (fun b hb => by simp [uJ, hb])] at hP1
    exact hK _ _ _ h1 p e s m args below meth c H1 locs1 ls C hP1 hS1 hl
  · exact h.elim
theorem cel_Q {G : GT} {σ : Mm} {a : Nat} (h : (sh a).1 = 3 ∨ (sh a).1 = 4) : cel G σ a = .inl (G.2.2.1 (sh a).1, (sh a).2.1, .inr (.inr (.inr (.inr (fun i => some (G.2.1 (refA a i))))))) := by
  rcases h with h | h <;> simp [cel, h, refA]
def zt_aaload : Tr := fun _ _ _ K _ lv st σ => match st with | .int i :: .ref a :: st => vp_in i (lenQ a) ∧ K none lv (.ref (refA a i.toNatClampNeg) :: st) σ | _ => False
theorem ze_aaload (hd : decode M.2.1 pc = .ok (.aaload, 1)) : Ent M (pc, pc + 1, zt_aaload) := by
  intro l G d K Q lv st σ hK hJ h p e s m args below meth c H locs ls C hP hS hl
  obtain ⟨hx, hb, hr, hml, hown, hts, hlocks, hKx⟩ := id C
  unfold zt_aaload at h
  dsimp only at h
  split at h
  · next i a st =>
    obtain ⟨h0, h1⟩ := h
    obtain ⟨q1, q2, q3⟩ := lenQ_in h0
    have hin : vp_in i (sh a).2.1 := by rw [← q3]; exact h0
    have hlt : i.toNatClampNeg < (sh a).2.1 := Nat.not_le.mp fun q => hin (Or.inr q)
    have hc : H[G.2.1 a]? = some (vp_cell (G.2.2.1 (sh a).1) ((sh a).2.1, .inr (.inr (.inr (.inr (fun i => some (G.2.1 (refA a i)))))))) := by
      have := hP a _ (wo_at G σ q2)
      rw [cel_Q q1] at this
      exact this
    have hk := hK _ _ _ h1 p e s m args below meth c H locs ls C hP hS hl
    rcases q1 with q1 | q1
    · rw [q1] at hc
      exact W.aald (v := .ref (G.2.1 (refA a i.toNatClampNeg))) (ty := .object "RefundDesk$Table") hx hb hc ((hKx.1.2 3 _ rfl).1 _ _) rfl (fun q => by cases q) (by show ¬ (i < 0 ∨ (arrV _ _ _).slots.size ≤ _); rw [arrV_size]; exact hin) (by show (arrV _ _ _).slots[_]? = _; rw [arrV_read _ _ hlt]; rfl) rfl rfl hd hk
    · rw [q1] at hc
      exact W.aald (v := .ref (G.2.1 (refA a i.toNatClampNeg))) (ty := .array .int) hx hb hc ((hKx.1.2 4 _ rfl).1 _ _) rfl (fun q => by cases q) (by show ¬ (i < 0 ∨ (arrV _ _ _).slots.size ≤ _); rw [arrV_size]; exact hin) (by show (arrV _ _ _).slots[_]? = _; rw [arrV_read _ _ hlt]; rfl) rfl rfl hd hk
  · exact h.elim
end Ops
