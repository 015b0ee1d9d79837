-- fields, returns, switches, calls
theorem sh_out {a : Nat} (h : NN ≤ a) : (sh a).1 = 2 := by
  have h2 : 123 ≤ a := h
  unfold sh
  rw [if_neg (show ¬ a < 61 by omega), if_neg (show ¬ a < 92 by omega), if_neg (show ¬ a < 107 by omega), if_neg (show ¬ a < 115 by omega), if_neg (show ¬ a < 119 by omega), if_neg (show ¬ a < 121 by omega), if_neg (show ¬ a < 122 by omega)]
theorem sh_obj {a c : Nat} (h : (sh a).1 = 10 + c) : a < NN := by
  rcases Nat.lt_or_ge a NN with q | q
  · exact q
  · rw [sh_out q] at h; omega
theorem sh_N : ∀ a, a < NN → (sh a).1 < 10 ∨ (vwCl[(sh a).1 - 10]?).map (fun q => q.2.2) = some (sh a).2.1 := by decide +kernel
theorem sh_len {a c : Nat} {C : String} {T : u_T} {N : Nat} (h : (sh a).1 = 10 + c) (hc : vwCl[c]? = some (C, T, N)) : (sh a).2.1 = N := by
  rcases sh_N a (sh_obj h) with q | q
  · omega
  · rw [h, show 10 + c - 10 = c by omega, hc] at q
    exact (Option.some.inj q).symm
section Flds
variable {M : Me} {pc : Nat}
/-- a field's link: class number, place -/
def Fl (own : String) (idx ci k : Nat) : Prop := ∃ (C : String) (T : u_T) (N : Nat) (ty0 : Nat → FieldType), vwCl[ci]? = some (C, T, N) ∧ (∀ w ∈ u_ws C T N, w ∈ gW) ∧ k < N ∧ Cond.fieldLink own idx (T k).1 (T k).2.1 (T k).2.2.1 ∈ gW ∧ (∀ k, k < N → parseFieldDescriptor (T k).2.2.1 = some (ty0 k)) ∧ (∀ a, a < N → ∀ b, b < N → a ≠ b → (T a).2.1 ≠ (T b).2.1)
/-- .. of a field that may be written, of this type -/
def Fw (ci k : Nat) (ty : FieldType) : Prop := ∃ (C : String) (T : u_T) (N : Nat), vwCl[ci]? = some (C, T, N) ∧ (T k).2.2.2 = false ∧ parseFieldDescriptor (T k).2.2.1 = some ty

def zt_getI (cn k : Nat) : Tr := fun _ _ _ K _ lv st σ => match st with | .ref a :: st => if (sh a).1 = cn ∧ refA a k = 0 then K none lv (.int (σ.1 a k) :: st) σ else False | _ => False
theorem ze_getI {idx ci k cn : Nat} (hd : decode M.2.1 pc = .ok (.getfield idx, 3)) (hF : Fl M.2.2.2.2 idx ci k) (hcn : 10 + ci = cn) : Ent M (pc, pc + 3, zt_getI cn k) := by
  intro l G d K Q lv st σ hK hJ h p e s m args below meth c H locs ls C hP hS hl
  obtain ⟨hx, hb, hr, hml, hown, hts, hlocks, hKx⟩ := id C
  subst hcn
  unfold zt_getI at h
  dsimp only at h
  split at h
  · next a st =>
    split at h
    · next hc =>
      obtain ⟨Cn, T, N, ty0, f1, f2, f3, f4, f5, f6⟩ := hF
      have hk : k < (sh a).2.1 := by rw [sh_len hc.1 f1]; exact f3
      have hf : fv G σ a k = .int (σ.1 a k) := by unfold fv; rw [if_pos (show (sh a).2.2.getD k 0 = 0 from hc.2)]
      refine va_get hx hb hts f2 hown hKx.1 hP a ((wo_at G σ (sh_obj hc.1)).trans (congrArg (fun z => some (G.2.1 a, z)) (cel_O hc.1))) f1 k f3 (hts _ f4) (fun _ z => z) (v := .int (σ.1 a k)) (by rw [List.getElem?_map, List.getElem?_range hk, Option.map_some, hf]) hd (hK _ _ _ h p e s m args below meth c H locs ls C hP hS hl)
    · exact h.elim
  · exact h.elim
def zt_getJ (cn k : Nat) : Tr := fun _ _ _ K _ lv st σ => match st with | .ref a :: st => if (sh a).1 = cn ∧ refA a k = 1 then K none lv (.long (σ.2 a k) :: st) σ else False | _ => False
theorem ze_getJ {idx ci k cn : Nat} (hd : decode M.2.1 pc = .ok (.getfield idx, 3)) (hF : Fl M.2.2.2.2 idx ci k) (hcn : 10 + ci = cn) : Ent M (pc, pc + 3, zt_getJ cn k) := by
  intro l G d K Q lv st σ hK hJ h p e s m args below meth c H locs ls C hP hS hl
  obtain ⟨hx, hb, hr, hml, hown, hts, hlocks, hKx⟩ := id C
  subst hcn
  unfold zt_getJ at h
  dsimp only at h
  split at h
  · next a st =>
    split at h
    · next hc =>
      obtain ⟨Cn, T, N, ty0, f1, f2, f3, f4, f5, f6⟩ := hF
      have hk : k < (sh a).2.1 := by rw [sh_len hc.1 f1]; exact f3
      have hf : fv G σ a k = .long (σ.2 a k) := by unfold fv; rw [if_neg (by rw [show (sh a).2.2.getD k 0 = 1 from hc.2]; decide), if_pos (show (sh a).2.2.getD k 0 = 1 from hc.2)]
      refine va_get hx hb hts f2 hown hKx.1 hP a ((wo_at G σ (sh_obj hc.1)).trans (congrArg (fun z => some (G.2.1 a, z)) (cel_O hc.1))) f1 k f3 (hts _ f4) (fun _ z => z) (v := .long (σ.2 a k)) (by rw [List.getElem?_map, List.getElem?_range hk, Option.map_some, hf]) hd (hK _ _ _ h p e s m args below meth c H locs ls C hP hS hl)
    · exact h.elim
  · exact h.elim
def zt_getR (cn k : Nat) : Tr := fun _ _ _ K _ lv st σ => match st with | .ref a :: st => if (sh a).1 = cn ∧ 2 ≤ refA a k then K none lv (.ref (refA a k - 2) :: st) σ else False | _ => False
theorem ze_getR {idx ci k cn : Nat} (hd : decode M.2.1 pc = .ok (.getfield idx, 3)) (hF : Fl M.2.2.2.2 idx ci k) (hcn : 10 + ci = cn) : Ent M (pc, pc + 3, zt_getR cn k) := by
  intro l G d K Q lv st σ hK hJ h p e s m args below meth c H locs ls C hP hS hl
  obtain ⟨hx, hb, hr, hml, hown, hts, hlocks, hKx⟩ := id C
  subst hcn
  unfold zt_getR at h
  dsimp only at h
  split at h
  · next a st =>
    split at h
    · next hc =>
      obtain ⟨Cn, T, N, ty0, f1, f2, f3, f4, f5, f6⟩ := hF
      have hk : k < (sh a).2.1 := by rw [sh_len hc.1 f1]; exact f3
      have hf : fv G σ a k = .ref (G.2.1 (refA a k - 2)) := by have hz : 2 ≤ (sh a).2.2.getD k 0 := hc.2; simp only [fv, refA]; rw [if_neg (by omega), if_neg (by omega)]
      refine va_get hx hb hts f2 hown hKx.1 hP a ((wo_at G σ (sh_obj hc.1)).trans (congrArg (fun z => some (G.2.1 a, z)) (cel_O hc.1))) f1 k f3 (hts _ f4) (fun _ z => z) (v := .ref (G.2.1 (refA a k - 2))) (by rw [List.getElem?_map, List.getElem?_range hk, Option.map_some, hf]) hd (hK _ _ _ h p e s m args below meth c H locs ls C hP hS hl)
    · exact h.elim
  · exact h.elim
def zt_putI (cn k : Nat) : Tr := fun _ _ _ K _ lv st σ => match st with | .int v :: .ref a :: st => if (sh a).1 = cn ∧ refA a k = 0 then K none lv st (uI σ a k v) else False | _ => False
theorem ze_putI {idx ci k cn : Nat} (hd : decode M.2.1 pc = .ok (.putfield idx, 3)) (hF : Fl M.2.2.2.2 idx ci k) (hW : Fw ci k .int) (hcn : 10 + ci = cn) : Ent M (pc, pc + 3, zt_putI cn k) := by
  intro l G d K Q lv st σ hK hJ h p e s m args below meth c H locs ls C hP hS hl
  obtain ⟨hx, hb, hr, hml, hown, hts, hlocks, hKx⟩ := id C
  subst hcn
  unfold zt_putI at h
  dsimp only at h
  split at h
  · next v a st =>
    split at h
    · next hc =>
      obtain ⟨Cn, T, N, ty0, f1, f2, f3, f4, f5, f6⟩ := hF
      obtain ⟨Cn', T', N', g1, g2, g3⟩ := hW
      cases f1.symm.trans g1
      have hk : k < (sh a).2.1 := by rw [sh_len hc.1 f1]; exact f3
      have hz : (sh a).2.2.getD k 0 = 0 := hc.2
      refine va_put hx hb hts f2 ty0 f5 f6 hown hKx.1 hP (wo_D hKx σ) hS a ((wo_at G σ (sh_obj hc.1)).trans (congrArg (fun z => some (G.2.1 a, z)) (cel_O hc.1))) f1 k f3 (hts _ f4) (fun _ z => z) g2 (v := .int v) g3 (rfl) (rfl) (by simpa using hk) hd (fun H1 locs1 hP1 _ hS1 => ?_)
      rw [mr_set (g := fv G (uI σ a k v) a) (by unfold fv; rw [hz]; simp [uI, upd]) (fun j hj => by unfold fv; simp [uI, upd, hj])] at hP1
      rw [wo_set (σ' := uI σ a k v) (cel_O hc.1) (fun b hb => by simp [uI, hb]) (fun b hb => by simp [uI, hb])] at hP1
      exact hK _ _ _ h p e s m args below meth c H1 locs1 ls C hP1 hS1 hl
    · exact h.elim
  · exact h.elim
def zt_putZ (cn k : Nat) : Tr := fun _ _ _ K _ lv st σ => match st with | .int v :: .ref a :: st => if (sh a).1 = cn ∧ refA a k = 0 then (v = 0 ∨ v = 1) ∧ K none lv st (uI σ a k v) else False | _ => False
theorem ze_putZ {idx ci k cn : Nat} (hd : decode M.2.1 pc = .ok (.putfield idx, 3)) (hF : Fl M.2.2.2.2 idx ci k) (hW : Fw ci k .boolean) (hcn : 10 + ci = cn) : Ent M (pc, pc + 3, zt_putZ cn k) := by
  intro l G d K Q lv st σ hK hJ h p e s m args below meth c H locs ls C hP hS hl
  obtain ⟨hx, hb, hr, hml, hown, hts, hlocks, hKx⟩ := id C
  subst hcn
  unfold zt_putZ at h
  dsimp only at h
  split at h
  · next v a st =>
    split at h
    · next hc =>
      obtain ⟨Cn, T, N, ty0, f1, f2, f3, f4, f5, f6⟩ := hF
      obtain ⟨Cn', T', N', g1, g2, g3⟩ := hW
      cases f1.symm.trans g1
      have hk : k < (sh a).2.1 := by rw [sh_len hc.1 f1]; exact f3
      have hz : (sh a).2.2.getD k 0 = 0 := hc.2
      refine va_put hx hb hts f2 ty0 f5 f6 hown hKx.1 hP (wo_D hKx σ) hS a ((wo_at G σ (sh_obj hc.1)).trans (congrArg (fun z => some (G.2.1 a, z)) (cel_O hc.1))) f1 k f3 (hts _ f4) (fun _ z => z) g2 (v := .int v) g3 (by rcases h.1 with q | q <;> subst q <;> rfl) (by rcases h.1 with q | q <;> subst q <;> rfl) (by simpa using hk) hd (fun H1 locs1 hP1 _ hS1 => ?_)
      rw [mr_set (g := fv G (uI σ a k v) a) (by unfold fv; rw [hz]; simp [uI, upd]) (fun j hj => by unfold fv; simp [uI, upd, hj])] at hP1
      rw [wo_set (σ' := uI σ a k v) (cel_O hc.1) (fun b hb => by simp [uI, hb]) (fun b hb => by simp [uI, hb])] at hP1
      exact hK _ _ _ h.2 p e s m args below meth c H1 locs1 ls C hP1 hS1 hl
    · exact h.elim
  · exact h.elim
def zt_putJ (cn k : Nat) : Tr := fun _ _ _ K _ lv st σ => match st with | .long v :: .ref a :: st => if (sh a).1 = cn ∧ refA a k = 1 then K none lv st (uJ σ a k v) else False | _ => False
theorem ze_putJ {idx ci k cn : Nat} (hd : decode M.2.1 pc = .ok (.putfield idx, 3)) (hF : Fl M.2.2.2.2 idx ci k) (hW : Fw ci k .long) (hcn : 10 + ci = cn) : Ent M (pc, pc + 3, zt_putJ cn k) := by
  intro l G d K Q lv st σ hK hJ h p e s m args below meth c H locs ls C hP hS hl
  obtain ⟨hx, hb, hr, hml, hown, hts, hlocks, hKx⟩ := id C
  subst hcn
  unfold zt_putJ at h
  dsimp only at h
  split at h
  · next v a st =>
    split at h
    · next hc =>
      obtain ⟨Cn, T, N, ty0, f1, f2, f3, f4, f5, f6⟩ := hF
      obtain ⟨Cn', T', N', g1, g2, g3⟩ := hW
      cases f1.symm.trans g1
      have hk : k < (sh a).2.1 := by rw [sh_len hc.1 f1]; exact f3
      have hz : (sh a).2.2.getD k 0 = 1 := hc.2
      refine va_put hx hb hts f2 ty0 f5 f6 hown hKx.1 hP (wo_D hKx σ) hS a ((wo_at G σ (sh_obj hc.1)).trans (congrArg (fun z => some (G.2.1 a, z)) (cel_O hc.1))) f1 k f3 (hts _ f4) (fun _ z => z) g2 (v := .long v) g3 (rfl) (rfl) (by simpa using hk) hd (fun H1 locs1 hP1 _ hS1 => ?_)
      rw [mr_set (g := fv G (uJ σ a k v) a) (by unfold fv; rw [hz]; simp [uJ, vp_updL]) (fun j hj => by unfold fv; simp [uJ, vp_updL, hj])] at hP1
      rw [wo_set (σ' := uJ σ a k v) (cel_O hc.1) (fun b hb => by simp [uJ, hb]) (fun b hb => by simp [uJ, hb])] at hP1
      exact hK _ _ _ h p e s m args below meth c H1 locs1 ls C hP1 hS1 hl
    · exact h.elim
  · exact h.elim
def zt_iret : Tr := fun _ _ _ _ Q _ st σ => match st with | [.int v] => Q (some (.int v)) σ | _ => False
theorem ze_iret {n : Nat} (hd : decode M.2.1 pc = .ok (.ireturn, 1)) (hM : M.2.2.2.1 = some .int) : Ent M (pc, n, zt_iret) := by
  intro l G d K Q lv st σ hK hJ h p e s m args below meth c H locs ls C hP hS hl
  obtain ⟨hx, hb, hr, hml, hown, hts, hlocks, hKx⟩ := id C
  unfold zt_iret at h
  dsimp only at h
  split at h
  · next v => exact W.iret hx hb (hr.trans hM) (fun t ht _ => ⟨⟨some (.int v), σ, rfl, h, by rw [ht]; exact hP⟩, hS.F ht⟩) hS.2.2 hd hlocks
  · exact h.elim
def zt_zret : Tr := fun _ _ _ _ Q _ st σ => match st with | [.int v] => (v = 0 ∨ v = 1) ∧ Q (some (.int v)) σ | _ => False
theorem ze_zret {n : Nat} (hd : decode M.2.1 pc = .ok (.ireturn, 1)) (hM : M.2.2.2.1 = some .boolean) : Ent M (pc, n, zt_zret) := by
  intro l G d K Q lv st σ hK hJ h p e s m args below meth c H locs ls C hP hS hl
  obtain ⟨hx, hb, hr, hml, hown, hts, hlocks, hKx⟩ := id C
  unfold zt_zret at h
  dsimp only at h
  split at h
  · next v => exact W.zret hx hb (hr.trans hM) (by rcases h.1 with q | q <;> subst q <;> rfl) (fun t ht _ => ⟨⟨some (.int v), σ, rfl, h.2, by rw [ht]; exact hP⟩, hS.F ht⟩) hS.2.2 hd hlocks
  · exact h.elim
def zt_lret : Tr := fun _ _ _ _ Q _ st σ => match st with | [.long v] => Q (some (.long v)) σ | _ => False
theorem ze_lret {n : Nat} (hd : decode M.2.1 pc = .ok (.lreturn, 1)) (hM : M.2.2.2.1 = some .long) : Ent M (pc, n, zt_lret) := by
  intro l G d K Q lv st σ hK hJ h p e s m args below meth c H locs ls C hP hS hl
  obtain ⟨hx, hb, hr, hml, hown, hts, hlocks, hKx⟩ := id C
  unfold zt_lret at h
  dsimp only at h
  split at h
  · next v => exact W.lret hx hb (hr.trans hM) (fun t ht _ => ⟨⟨some (.long v), σ, rfl, h, by rw [ht]; exact hP⟩, hS.F ht⟩) hS.2.2 hd hlocks
  · exact h.elim
def zt_aret : Tr := fun _ _ _ _ Q _ st σ => match st with | [.ref v] => Q (some (.ref v)) σ | _ => False
theorem ze_aret {n : Nat} {cs : String} (hd : decode M.2.1 pc = .ok (.areturn, 1)) (hM : M.2.2.2.1 = some (.object cs)) : Ent M (pc, n, zt_aret) := by
  intro l G d K Q lv st σ hK hJ h p e s m args below meth c H locs ls C hP hS hl
  obtain ⟨hx, hb, hr, hml, hown, hts, hlocks, hKx⟩ := id C
  unfold zt_aret at h
  dsimp only at h
  split at h
  · next v => exact W.aret hx hb (hr.trans hM) (Or.inl ⟨cs, rfl⟩) (Or.inr ⟨_, rfl⟩) (fun t ht _ => ⟨⟨some (.ref v), σ, rfl, h, by rw [ht]; exact hP⟩, hS.F ht⟩) hS.2.2 hd hlocks
  · exact h.elim
def zt_vret : Tr := fun _ _ _ _ Q _ st σ => match st with | [] => Q none σ | _ => False
theorem ze_vret {n : Nat} (hd : decode M.2.1 pc = .ok (.return_, 1)) (hM : M.2.2.2.1 = none) : Ent M (pc, n, zt_vret) := by
  intro l G d K Q lv st σ hK hJ h p e s m args below meth c H locs ls C hP hS hl
  obtain ⟨hx, hb, hr, hml, hown, hts, hlocks, hKx⟩ := id C
  unfold zt_vret at h
  dsimp only at h
  split at h
  · exact W.vret hx hb (hr.trans hM) (fun t ht _ => ⟨⟨none, σ, rfl, h, by rw [ht]; exact hP⟩, hS.F ht⟩) hS.2.2 hd hlocks
  · exact h.elim
/-- a switch by a table: low, the targets, what else -/
def swA (K : Ko) (lv : Lv) (st : List Value) (σ : Mm) (x : Int32) : Int → List Nat → Prop
  | _, [] => True
  | lo, t :: ts => (x.toInt = lo → K (some t) lv st σ) ∧ swA K lv st σ x (lo + 1) ts
theorem swA_at {K : Ko} {lv : Lv} {st : List Value} {σ : Mm} {x : Int32} : ∀ (ts : List Nat) (lo : Int) (k t : Nat), swA K lv st σ x lo ts → ts[k]? = some t → x.toInt = lo + k → K (some t) lv st σ
  | [], _, k, t, _, h, _ => by simp at h
  | t0 :: ts, lo, 0, t, h, h1, h2 => by
    simp at h1
    subst h1
    exact h.1 (by simpa using h2)
  | t0 :: ts, lo, k + 1, t, h, h1, h2 => by
    refine swA_at ts (lo + 1) k t h.2 (by simpa using h1) ?_
    rw [h2]; push_cast; omega
def zt_tsw (lo hi : Int) (ts : List Nat) (df : Nat) : Tr := fun _ _ _ K _ lv st σ => match st with | .int x :: st => swA K lv st σ x lo ts ∧ ((x.toInt < lo ∨ hi < x.toInt) → K (some df) lv st σ) | _ => False
theorem ze_tsw {df0 lo hi : Int} {offs : Array Int} {len n df : Nat} {ts : List Nat} (hd : decode M.2.1 pc = .ok (.tableswitch df0 lo hi offs, len)) (hdf : (pc : Int) + df0 = (df : Int)) (hts0 : offs.toList.map (fun o => (pc : Int) + o) = ts.map (fun (t : Nat) => (t : Int))) (hle : (ts.length : Int) = hi - lo + 1) : Ent M (pc, n, zt_tsw lo hi ts df) := by
  intro l G d K Q lv st σ hK hJ h p e s m args below meth c H locs ls C hP hS hl
  obtain ⟨hx, hb, hr, hml, hown, hts, hlocks, hKx⟩ := id C
  unfold zt_tsw at h
  dsimp only at h
  split at h
  · next x st =>
    by_cases hq : x.toInt < lo ∨ hi < x.toInt
    · exact lv_tableOut hx hb hd hq hdf (hJ _ _ _ _ (h.2 hq) p e s m args below meth c H locs ls C hP hS hl)
    · have h1 : ¬ x.toInt < lo := fun z => hq (Or.inl z)
      have h2 : ¬ hi < x.toInt := fun z => hq (Or.inr z)
      have hlt : (x.toInt - lo).toNat < ts.length := by omega
      have hlo : offs.toList.length = ts.length := by simpa using congrArg List.length hts0
      have hlt2 : (x.toInt - lo).toNat < offs.toList.length := by rw [hlo]; exact hlt
      have he : (pc : Int) + offs.toList[(x.toInt - lo).toNat] = (ts[(x.toInt - lo).toNat] : Int) := by
        have := congrArg (fun z => z[(x.toInt - lo).toNat]?) hts0
        simp only [List.getElem?_map, List.getElem?_eq_getElem hlt, List.getElem?_eq_getElem hlt2, Option.map_some] at this
        exact Option.some.inj this
      refine lv_tableIn hx hb hd h1 h2 (off := offs.toList[(x.toInt - lo).toNat]) (by rw [← Array.getElem?_toList]; exact List.getElem?_eq_getElem hlt2) he ?_
      exact hJ _ _ _ _ (swA_at ts lo (x.toInt - lo).toNat _ h.1 (List.getElem?_eq_getElem hlt) (by omega)) p e s m args below meth c H locs ls C hP hS hl
  · exact h.elim
end Flds
