-- the conditions of a method's body, reckoned instruction by instruction
def pick (lv : Lv) (ks : List Nat) : Lv := ks.filterMap (fun k => (lk lv k).map (fun v => (k, v)))
theorem pick_mem {lv : Lv} {ks : List Nat} {q : Nat × Value} (h : q ∈ pick lv ks) : q ∈ lv := by
  obtain ⟨k, -, hk⟩ := List.mem_filterMap.mp h
  cases hv : lk lv k with
  | none => rw [hv] at hk; cases hk
  | some v => rw [hv] at hk; cases hk; exact lk_mem hv
def cutk : List (Nat × List Nat) → Nat → Option (List Nat)
  | [], _ => none
  | q :: l, pc => if q.1 = pc then some q.2 else cutk l pc
def drp : List In → Nat → List In
  | [], _ => []
  | i :: l, t => if i.1 = t then i :: l else drp l t
theorem drp_mem {T : List In} {t : Nat} {i : In} (h : i ∈ drp T t) : i ∈ T := by
  induction T with
  | nil => cases h
  | cons x l ih =>
    unfold drp at h
    split at h
    · exact h
    · exact List.mem_cons_of_mem _ (ih h)
def vcG (go : List In → Lv → List Value → Mm → Prop) (stop : Nat → Lv → List Value → Mm → Prop) (cs : List (Nat × List Nat)) (is : List In) (pc : Nat) (lv : Lv) (st : List Value) (σ : Mm) : Prop :=
  match cutk cs pc with
  | some ks => stop pc (pick lv ks) st σ
  | none => match is with
    | i :: _ => if i.1 = pc then go is lv st σ else False
    | [] => False
def hdp : List In → Nat
  | [] => 0
  | i :: _ => i.1
/-- from the rows 'is' of the table T on: the conditions under which M returns with Q; at the places of 'cs' they stop, and ask Wp there, of the locals named -/
def vc (l : Launch) (G : GT) (d : Nat) (M : Me) (T : List In) (Q : Po) (cs : List (Nat × List Nat)) : Nat → List In → Lv → List Value → Mm → Prop
  | 0, is, lv, st, σ => Wp l G d M (hdp is) lv st σ Q
  | _ + 1, [], _, _, _ => False
  | n + 1, i :: rest, lv, st, σ => i.2.2 l G d (fun j lv st σ => match j with
      | none => vcG (vc l G d M T Q cs n) (fun pc lv st σ => Wp l G d M pc lv st σ Q) cs rest i.2.1 lv st σ
      | some t => vcG (vc l G d M T Q cs n) (fun pc lv st σ => Wp l G d M pc lv st σ Q) cs (drp T t) t lv st σ) Q lv st σ
theorem vcG_ok {l : Launch} {G : GT} {d : Nat} {M : Me} {Q : Po} {go : List In → Lv → List Value → Mm → Prop} {cs : List (Nat × List Nat)} {is : List In} {pc : Nat} {lv : Lv} {st : List Value} {σ : Mm} (hgo : ∀ lv st σ, go is lv st σ → Wp l G d M (hdp is) lv st σ Q) (h : vcG go (fun pc lv st σ => Wp l G d M pc lv st σ Q) cs is pc lv st σ) : Wp l G d M pc lv st σ Q := by
  unfold vcG at h
  split at h
  · exact Wp.sub (fun q hq => pick_mem hq) h
  · split at h
    · next i l0 =>
      split at h
      · next he => rw [← he]; exact hgo _ _ _ h
      · exact h.elim
    · exact h.elim
theorem vc_ok {l : Launch} {G : GT} {d : Nat} {M : Me} {T : List In} {Q : Po} {cs : List (Nat × List Nat)} (hT : ∀ i ∈ T, Ent M i) : ∀ (n : Nat) (is : List In) (lv : Lv) (st : List Value) (σ : Mm), (∀ i ∈ is, Ent M i) → vc l G d M T Q cs n is lv st σ → Wp l G d M (hdp is) lv st σ Q
  | 0, is, lv, st, σ, _, h => h
  | _ + 1, [], _, _, _, _, h => h.elim
  | n + 1, i :: rest, lv, st, σ, hi, h => by
    refine hi i List.mem_cons_self l G d _ Q lv st σ ?_ ?_ h
    · intro lv st σ h1
      exact vcG_ok (fun lv st σ h2 => vc_ok hT n rest lv st σ (fun j hj => hi j (List.mem_cons_of_mem _ hj)) h2) h1
    · intro t lv st σ h1
      exact vcG_ok (fun lv st σ h2 => vc_ok hT n (drp T t) lv st σ (fun j hj => hT j (drp_mem hj)) h2) h1
/-- from a place of the body on -/
theorem wp_vc {l : Launch} {G : GT} {d : Nat} {M : Me} {T : List In} {Q : Po} {pc : Nat} {lv : Lv} {st : List Value} {σ : Mm} (hT : ∀ i ∈ T, Ent M i) (cs : List (Nat × List Nat)) (n : Nat) (hpc : hdp (drp T pc) = pc) (h : vc l G d M T Q cs n (drp T pc) lv st σ) : Wp l G d M pc lv st σ Q := by
  have := vc_ok hT n (drp T pc) lv st σ (fun j hj => hT j (drp_mem hj)) h
  rw [hpc] at this
  exact this
theorem lv_args_tv (G : GT) (av : List Value) (i : Nat) : lv_args i (av.map (tv G)) = (lv_args i av).map (tl G) := by
  induction av generalizing i with
  | nil => rfl
  | cons v vs ih =>
    show (i, tv G v) :: lv_args (if (tv G v).category = 2 then i + 2 else i + 1) (vs.map (tv G)) = _
    rw [tv_cat, ih]; rfl
theorem lg_sl_tv (G : GT) (av : List Value) : (lg_sl (av.map (tv G))).length = (lg_sl av).length := by
  induction av with
  | nil => rfl
  | cons v vs ih =>
    have h1 : ∀ (v : Value) (vs : List Value), (lg_sl (v :: vs)).length = (if v.category = 2 then 2 else 1) + (lg_sl vs).length := by
      intro v vs
      simp only [lg_sl, List.flatMap_cons, List.length_append]
      congr 1
      split <;> rfl
    rw [List.map_cons, h1, h1, ih, tv_cat]
/-- a method's contract out of the conditions of its body -/
theorem mw_vc {l : Launch} {G : GT} {d : Nat} {M : Me} {T : List In} {av : List Value} {Q : Po} {σ : Mm} (hT : ∀ i ∈ T, Ent M i) (hc : MeC M) (ho : M.2.2.2.2 = M.1.cls) (hlen : (lg_sl av).length ≤ M.2.2.1) (cs : List (Nat × List Nat)) (n : Nat) (h0 : hdp T = 0) (h : vc l G d M T Q cs n T (lv_args 0 av) [] σ) : MW l G d M av σ Q := by
  refine Met.ofW (cc := M.2.1) (maxL := M.2.2.1) (ret := M.2.2.2.1) hc.2.2.2.2 rfl ?_
  intro p e s m args below meth c s1 B hml hv
  obtain ⟨rfl, hP, hKx⟩ := hv
  have hts := atoms_spec (ws := wsM M) B.pre
  have hown : s.vm.findClass M.1.cls = some m.cls := findClass_of_methodNamed B.named
  have hl := lv_entry (av.map (tv G)) (n := M.2.2.1) (by rw [lg_sl_tv]; exact hlen)
  rw [lg_entry_eq]
  generalize (lg_sl (av.map (tv G)) ++ List.replicate (M.2.2.1 - (lg_sl (av.map (tv G))).length) Slot.unset).toArray = ls at hl ⊢
  rw [lv_args_tv] at hl
  have hw := vc_ok hT n T _ _ _ hT h
  rw [h0] at hw
  exact hw p e s m _ below meth c s.heap [] ls ⟨B.exec, B.bytes, B.returns, hml, by rw [ho]; exact hown, fun w hw => hts w (List.mem_cons_of_mem _ hw), B.notSynchronized, hKx⟩ hP va_S.rf hl
theorem MW.mono {l : Launch} {G : GT} {d : Nat} {M : Me} {av : List Value} {σ : Mm} {Q Q' : Po} (h : MW l G d M av σ Q) (hq : ∀ r σ', Q r σ' → Q' r σ') : MW l G d M av σ Q' := by
  intro p e ha hc hk s m args below hf h1 h2 h3
  obtain ⟨k, o, a1, a2, a3, ⟨⟨⟨r, σ', b1, b2, b3⟩, b4⟩, b5⟩⟩ := h p e ha hc hk s m args below hf h1 h2 h3
  exact ⟨k, o, a1, a2, a3, ⟨⟨⟨r, σ', b1, hq _ _ b2, b3⟩, b4⟩, b5⟩⟩
-- the library's own: Math.max, Math.min, System.arraycopy of ints
section Nat1
variable {M : Me} {pc : Nat}
def zt_max : Tr := fun _ _ d K _ lv st σ => match st with | .int y :: .int x :: st => if 1 ≤ d ∧ catS st ≤ 24 then K none lv (.int (if x < y then y else x) :: st) σ else False | _ => False
theorem ze_max {idx : Nat} (hd : decode M.2.1 pc = .ok (.invokestatic idx, 3)) (hk : Cond.methodLink M.2.2.2.2 idx Lib.Math.max.name ∈ gW) (h2 : Cond.static Lib.Math.max.name ∈ gW) (h3 : Cond.initialized "java/lang/Math" ∈ gW) (h4 : Cond.code Lib.Math.max.name Lib.Math.max.code 2 (some .int) ∈ gW) : Ent M (pc, pc + 3, zt_max) := by
  intro l G d K Q lv st σ hK hJ h p e s m args below meth c H locs ls C hP hS hl
  obtain ⟨hx, hb, hr, hml, hown, hts, hlocks, hKx⟩ := id C
  unfold zt_max at h
  dsimp only at h
  split at h
  · next y x st =>
    split at h
    · next hn => exact va_mmax hx hb (hml.trans hl.1.symm) hown (hts _ hk) (hts _ h2) (hts _ h3) (hts _ h4) hn.1 (by rw [catS_tv]; show catS st + 13 ≤ 96 * d; omega) (Nat.le_refl _) (Nat.le_refl _) hd (hK _ _ _ h p e s m args below meth c H locs ls C hP hS hl)
    · exact h.elim
  · exact h.elim
def zt_min : Tr := fun _ _ d K _ lv st σ => match st with | .int y :: .int x :: st => if 1 ≤ d ∧ catS st ≤ 24 then K none lv (.int (if y < x then y else x) :: st) σ else False | _ => False
theorem ze_min {idx : Nat} (hd : decode M.2.1 pc = .ok (.invokestatic idx, 3)) (hk : Cond.methodLink M.2.2.2.2 idx Lib.Math.min.name ∈ gW) (h2 : Cond.static Lib.Math.min.name ∈ gW) (h3 : Cond.initialized "java/lang/Math" ∈ gW) (h4 : Cond.code Lib.Math.min.name Lib.Math.min.code 2 (some .int) ∈ gW) : Ent M (pc, pc + 3, zt_min) := by
  intro l G d K Q lv st σ hK hJ h p e s m args below meth c H locs ls C hP hS hl
  obtain ⟨hx, hb, hr, hml, hown, hts, hlocks, hKx⟩ := id C
  unfold zt_min at h
  dsimp only at h
  split at h
  · next y x st =>
    split at h
    · next hn => exact va_mmin hx hb (hml.trans hl.1.symm) hown (hts _ hk) (hts _ h2) (hts _ h3) (hts _ h4) hn.1 (by rw [catS_tv]; show catS st + 13 ≤ 96 * d; omega) (Nat.le_refl _) (Nat.le_refl _) hd (hK _ _ _ h p e s m args below meth c H locs ls C hP hS hl)
    · exact h.elim
  · exact h.elim
def zt_copyI : Tr := fun _ _ d K _ lv st σ => match st with
  | .int n :: .int dp :: .ref a :: .int sp :: .ref a0 :: st => if 1 ≤ d ∧ catS st ≤ 24 then (¬ sp < 0 ∧ ¬ dp < 0 ∧ ¬ n < 0 ∧ (sh a0).1 = 1 ∧ (sh a).1 = 1 ∧ a0 < NN ∧ a < NN ∧ sp.toNatClampNeg + n.toNatClampNeg ≤ lenI a0 ∧ dp.toNatClampNeg + n.toNatClampNeg ≤ lenI a) ∧ K none lv st (uR σ a (va_cpy (σ.1 a0) (σ.1 a) sp.toNatClampNeg dp.toNatClampNeg n.toNatClampNeg)) else False
  | _ => False
theorem ze_copyI {idx : Nat} (hd : decode M.2.1 pc = .ok (.invokestatic idx, 3)) (hk : Cond.methodLink M.2.2.2.2 idx arraycopyName ∈ gW) (h1 : Cond.native arraycopyName ∈ gW) (h2 : Cond.static arraycopyName ∈ gW) (h3 : Cond.initialized "java/lang/System" ∈ gW) : Ent M (pc, pc + 3, zt_copyI) := by
  intro l G d K Q lv st σ hK hJ h p e s m args below meth c H locs ls C hP hS hl
  obtain ⟨hx, hb, hr, hml, hown, hts, hlocks, hKx⟩ := id C
  unfold zt_copyI at h
  dsimp only at h
  split at h
  · next n dp a sp a0 st =>
    split at h
    · next hn =>
      obtain ⟨⟨g1, g2, g3, g4, g5, g6, g7, g8, g9⟩, h⟩ := h
      have q0 : lenI a0 = (sh a0).2.1 := if_pos ⟨g4, g6⟩
      have q1 : lenI a = (sh a).2.1 := if_pos ⟨g5, g7⟩
      have hlo : ((st.map (tv G)).map fun v => v.category).sum + (nativeFrameWords "java/lang/System" "arraycopy" 5 + 11) ≤ (rmD d).locals := by
        rw [catS_tv]
        have h5 : nativeFrameWords "java/lang/System" "arraycopy" 5 + 11 ≤ 60 := by decide +kernel
        show catS st + (nativeFrameWords "java/lang/System" "arraycopy" 5 + 11) ≤ 96 * d
        omega
      refine va_copyi hx hb (hml.trans hl.1.symm) hown (hts _ hk) (hts _ h1) (hts _ h2) (hts _ h3) hKx.1 hP (wo_D hKx σ) hS a0 a 1 1 ((wo_at G σ g6).trans (congrArg (fun z => some (G.2.1 a0, z)) (cel_I g4))) ((wo_at G σ g7).trans (congrArg (fun z => some (G.2.1 a, z)) (cel_I g5))) rfl rfl rfl g1 g2 g3 (by rw [← q0]; exact g8) (by rw [← q1]; exact g9) (fun _ _ => rfl) hn.1 hlo hd (fun H1 locs1 hP1 _ hS1 => ?_)
      rw [wo_set (σ' := uR σ a (va_cpy (σ.1 a0) (σ.1 a) sp.toNatClampNeg dp.toNatClampNeg n.toNatClampNeg)) (by rw [cel_I g5]; simp [uR]) (fun b hb => by simp [uR, hb]) (fun b hb => by simp [uR, hb])] at hP1
      exact hK _ _ _ h p e s m args below meth c H1 locs1 ls C hP1 hS1 hl
    · exact h.elim
  · exact h.elim
end Nat1
