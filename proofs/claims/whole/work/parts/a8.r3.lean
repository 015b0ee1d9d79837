-- a loan, a policy told: purely
def bsR (ru : Nat → Int) (t h : Nat) : Int := if h ≤ t ∧ (t : Int) < ru 1 then bnd (ru 3 + h * ru 4 - ((t : Int) - h) * ru 5) else 0
/-- the loan before its clauses -/
def W00 (ru : Nat → Int) : Wk := (fun k => if k = 2 then ru 2 else if k = 3 then ru 11 else 0, fun _ => 0, bsR ru, fun _ _ => 0)
def stpW (ru : Nat → Int) (W : Wk) (q : Nat × (Nat → Int)) : Wk := if q.1 = 1 then (if q.2 0 < ru 1 then W.putA (q.2 0).toNat (q.2 1) else W) else if q.1 = 2 then (if isN ru (q.2 0) (q.2 1) then W.putR (q.2 0).toNat (q.2 1).toNat (q.2 2) else W) else W
def wLoan (ru : Nat → Int) (L : Pl) : Wk := L.foldl (stpW ru) (W00 ru)
def stpD (ru : Nat → Int) (W : Wk) (q : Nat × (Nat → Int)) : Wk := if isN ru (q.2 0) (q.2 1) then W.putD (q.2 0).toNat (q.2 1).toNat (q.2 2) else W
def wPolT (ru : Nat → Int) (W : Wk) (L : Pl) : Wk := L.foldl (stpD ru) (W.deeds (fun _ _ => 0))
theorem stp_comm (ru : Nat → Int) (W : Wk) {a b : Nat × (Nat → Int)} (ha : a.1 = 1) (hb : b.1 = 2) : stpW ru (stpW ru W a) b = stpW ru (stpW ru W b) a := by
  unfold stpW
  rw [if_pos ha, if_neg (by omega), if_pos hb, if_pos ha]
  split <;> split <;> simp_all <;> rfl
theorem stp_fold (ru : Nat → Int) {a : Nat × (Nat → Int)} (ha : a.1 = 1) : ∀ (M : Pl) (W : Wk), (∀ b ∈ M, b.1 = 2) → M.foldl (stpW ru) (stpW ru W a) = stpW ru (M.foldl (stpW ru) W) a
  | [], W, h => rfl
  | b :: M, W, h => by
    rw [List.foldl_cons, List.foldl_cons, stp_comm ru W ha (h b List.mem_cons_self)]
    exact stp_fold ru ha M _ (fun x hx => h x (List.mem_cons_of_mem _ hx))
theorem fl_mem {s : Nat} {L : Pl} {q : Nat × (Nat → Int)} (h : q ∈ fl s L) : q ∈ L ∧ q.1 = s := by
  obtain ⟨h1, h2⟩ := List.mem_filter.mp h
  exact ⟨h1, by simpa using h2⟩
theorem wLoan_split (ru : Nat → Int) (W : Wk) : ∀ (n : Nat) (L : Pl), L.length = n → (∀ q ∈ L, q.1 = 1 ∨ q.1 = 2) → L.foldl (stpW ru) W = (fl 2 L).foldl (stpW ru) ((fl 1 L).foldl (stpW ru) W) := by
  intro n
  induction n with
  | zero =>
    intro L hL h
    have : L = [] := List.length_eq_zero_iff.mp hL
    subst this
    rfl
  | succ n ih =>
    intro L hL h
    have hne : L ≠ [] := fun e => by rw [e] at hL; exact absurd hL (by simp)
    obtain ⟨L', q, rfl⟩ : ∃ L' q, L = L' ++ [q] := ⟨L.dropLast, L.getLast hne, (List.dropLast_concat_getLast hne).symm⟩
    have hl : L'.length = n := by
      rw [List.length_append] at hL
      have e1 : [q].length = 1 := rfl
      omega
    have ih := ih L' hl (fun x hx => h x (List.mem_append_left _ hx))
    rw [List.foldl_append, ih, fl_app 1, fl_app 2]
    show stpW ru _ q = _
    rcases h q (List.mem_append_right _ List.mem_cons_self) with e | e
    · rw [if_neg (show ¬ q.1 = 2 by omega), if_pos e, List.foldl_append]
      show _ = (fl 2 L').foldl (stpW ru) (stpW ru _ q)
      rw [stp_fold ru e _ _ (fun b hb => (fl_mem hb).2)]
    · rw [if_pos e, if_neg (show ¬ q.1 = 1 by omega), List.foldl_append]
      rfl
theorem RB_bd {r : Nat → Int} (h : bdB 0 r) : RB r := by
  have z : szB 0 = 14 := rfl
  have g : ∀ j (lo hi : Int), j < 14 → (loB 0 j).toInt = lo → (hiB 0 j).toInt = hi → lo ≤ r j ∧ r j ≤ hi := fun j lo hi hj h1 h2 => by rw [← h1, ← h2]; exact h j hj
  exact ⟨g 0 1 9999 (by omega) (by decide) (by decide), g 1 1 12 (by omega) (by decide) (by decide), g 2 0 999 (by omega) (by decide) (by decide), g 3 0 999 (by omega) (by decide) (by decide), g 4 0 99 (by omega) (by decide) (by decide), g 5 0 99 (by omega) (by decide) (by decide), g 6 0 100 (by omega) (by decide) (by decide), g 7 0 999 (by omega) (by decide) (by decide), g 8 0 99 (by omega) (by decide) (by decide), g 9 0 12 (by omega) (by decide) (by decide), g 10 0 2 (by omega) (by decide) (by decide), g 11 0 2 (by omega) (by decide) (by decide), g 12 0 99 (by omega) (by decide) (by decide), g 13 0 999 (by omega) (by decide) (by decide)⟩
theorem bd1 {v : Nat → Int} (h : bdB 1 v) : (1 ≤ v 0 ∧ v 0 ≤ 12) ∧ (0 ≤ v 1 ∧ v 1 ≤ 9999) := by
  have g : ∀ j (lo hi : Int), j < 2 → (loB 1 j).toInt = lo → (hiB 1 j).toInt = hi → lo ≤ v j ∧ v j ≤ hi := fun j lo hi hj h1 h2 => by rw [← h1, ← h2]; exact h j hj
  exact ⟨g 0 1 12 (by omega) (by decide) (by decide), g 1 0 9999 (by omega) (by decide) (by decide)⟩
theorem bd2 {v : Nat → Int} (h : bdB 2 v) : (0 ≤ v 0 ∧ v 0 ≤ 11) ∧ (0 ≤ v 1 ∧ v 1 ≤ 11) ∧ (0 ≤ v 2 ∧ v 2 ≤ 999) := by
  have g : ∀ j (lo hi : Int), j < 3 → (loB 2 j).toInt = lo → (hiB 2 j).toInt = hi → lo ≤ v j ∧ v j ≤ hi := fun j lo hi hj h1 h2 => by rw [← h1, ← h2]; exact h j hj
  exact ⟨g 0 0 11 (by omega) (by decide) (by decide), g 1 0 11 (by omega) (by decide) (by decide), g 2 0 999 (by omega) (by decide) (by decide)⟩
theorem bd3 {v : Nat → Int} (h : bdB 3 v) : (0 ≤ v 0 ∧ v 0 ≤ 11) ∧ (0 ≤ v 1 ∧ v 1 ≤ 11) ∧ (0 ≤ v 2 ∧ v 2 ≤ 2) := by
  have g : ∀ j (lo hi : Int), j < 3 → (loB 3 j).toInt = lo → (hiB 3 j).toInt = hi → lo ≤ v j ∧ v j ≤ hi := fun j lo hi hj h1 h2 => by rw [← h1, ← h2]; exact h j hj
  exact ⟨g 0 0 11 (by omega) (by decide) (by decide), g 1 0 11 (by omega) (by decide) (by decide), g 2 0 2 (by omega) (by decide) (by decide)⟩
theorem WB_00 {ru : Nat → Int} (hr : RB ru) : WB ru (W00 ru) := by
  unfold RB at hr
  have f0 : ∀ k, k ≠ 2 → k ≠ 3 → (W00 ru).f k = 0 := fun k k1 k2 => by show (if k = 2 then ru 2 else if k = 3 then ru 11 else 0) = 0; rw [if_neg k1, if_neg k2]
  have f2 : (W00 ru).f 2 = ru 2 := rfl
  have f3 : (W00 ru).f 3 = ru 11 := rfl
  have e0 := f0 0 (by decide) (by decide)
  have e1 := f0 1 (by decide) (by decide)
  have e4 := f0 4 (by decide) (by decide)
  have e6 := f0 6 (by decide) (by decide)
  refine ⟨by omega, by omega, by omega, by omega, Or.inl e6, fun _ => by omega, fun q => absurd e4 q, fun j => ?_, fun t h => ?_, fun t h => ?_⟩
  · show (0 : Int) ≤ 0 ∧ (0 : Int) ≤ 9999
    omega
  · show 0 ≤ bsR ru t h ∧ bsR ru t h ≤ 999
    unfold bsR
    split
    · exact bnd_in _
    · omega
  · show (0 : Int) ≤ 0 ∧ (0 : Int) ≤ 2
    omega
theorem WB_stp {ru : Nat → Int} {W : Wk} {q : Nat × (Nat → Int)} (h : WB ru W) (hb : bdB q.1 q.2) : WB ru (stpW ru W q) := by
  obtain ⟨h1, h2, h3, h4, h5, h6, h7, h8, h9, h10⟩ := h
  unfold stpW
  split
  · next e =>
    rw [e] at hb
    have := bd1 hb
    split
    · refine ⟨h1, h2, h3, h4, h5, h6, h7, fun j => ?_, h9, h10⟩
      show 0 ≤ (if j = (q.2 0).toNat then q.2 1 else W.am j) ∧ (if j = (q.2 0).toNat then q.2 1 else W.am j) ≤ 9999
      split
      · exact this.2
      · exact h8 j
    · exact ⟨h1, h2, h3, h4, h5, h6, h7, h8, h9, h10⟩
  · split
    · next e =>
      rw [e] at hb
      have := bd2 hb
      split
      · refine ⟨h1, h2, h3, h4, h5, h6, h7, h8, fun t k => ?_, h10⟩
        show 0 ≤ (if t = (q.2 0).toNat ∧ k = (q.2 1).toNat then q.2 2 else W.ra t k) ∧ (if t = (q.2 0).toNat ∧ k = (q.2 1).toNat then q.2 2 else W.ra t k) ≤ 999
        split
        · exact this.2.2
        · exact h9 t k
      · exact ⟨h1, h2, h3, h4, h5, h6, h7, h8, h9, h10⟩
    · exact ⟨h1, h2, h3, h4, h5, h6, h7, h8, h9, h10⟩
theorem WB_loan {ru : Nat → Int} (hr : RB ru) : ∀ (L : Pl) (W : Wk), WB ru W → (∀ q ∈ L, bdB q.1 q.2) → WB ru (L.foldl (stpW ru) W)
  | [], W, h, _ => h
  | q :: L, W, h, hb => by
    rw [List.foldl_cons]
    exact WB_loan hr L _ (WB_stp h (hb q List.mem_cons_self)) (fun x hx => hb x (List.mem_cons_of_mem _ hx))
theorem WB_de {ru : Nat → Int} {W : Wk} {D : Nat → Nat → Int} (h : WB ru W) (hd : ∀ t k, 0 ≤ D t k ∧ D t k ≤ 2) : WB ru (W.deeds D) := ⟨h.1, h.2.1, h.2.2.1, h.2.2.2.1, h.2.2.2.2.1, h.2.2.2.2.2.1, h.2.2.2.2.2.2.1, h.2.2.2.2.2.2.2.1, h.2.2.2.2.2.2.2.2.1, hd⟩
theorem WB_pol {ru : Nat → Int} : ∀ (L : Pl) (W : Wk), WB ru W → (∀ q ∈ L, bdB 3 q.2) → WB ru (L.foldl (stpD ru) W)
  | [], W, h, _ => h
  | q :: L, W, h, hb => by
    rw [List.foldl_cons]
    refine WB_pol L _ ?_ (fun x hx => hb x (List.mem_cons_of_mem _ hx))
    have b3 := bd3 (hb q List.mem_cons_self)
    unfold stpD
    split
    · refine WB_de h (fun t k => ?_)
      split
      · exact b3.2.2
      · exact h.2.2.2.2.2.2.2.2.2 t k
    · exact h
/-- deeds only of nodes -/
def DN (ru : Nat → Int) (D : Nat → Nat → Int) : Prop := ∀ t h : Nat, ¬ ((t : Int) < ru 1 ∧ h ≤ t) → D t h = 0
theorem DN_stp {ru : Nat → Int} {W : Wk} {q : Nat × (Nat → Int)} (h : DN ru W.de) : DN ru (stpD ru W q).de := by
  unfold stpD
  split
  · next e =>
    intro t k hk
    show (if t = (q.2 0).toNat ∧ k = (q.2 1).toNat then q.2 2 else W.de t k) = 0
    rw [if_neg (fun z => hk ⟨by omega, by omega⟩)]
    exact h t k hk
  · exact h
def wNz (W : Wk) (t h : Nat) : Nat := if W.de t h = 0 then 0 else 1
theorem flat_n {g : Nat → Nat → Nat} (hg : ∀ t h, ¬ h ≤ t → g t h = 0) : ∀ T H, T < 12 → H ≤ 12 → rowN (fun k => g (k / 12) (k % 12)) (12 * T + H) = allN g T + rowN (g T) H := by
  intro T
  induction T with
  | zero =>
    intro H _ hH
    induction H with
    | zero => rfl
    | succ H ih =>
      have ih := ih (by omega)
      show rowN _ (12 * 0 + H) + g ((12 * 0 + H) / 12) ((12 * 0 + H) % 12) = _
      rw [ih, show (12 * 0 + H) / 12 = 0 by omega, show (12 * 0 + H) % 12 = H by omega]
      show _ = allN g 0 + (rowN (g 0) H + g 0 H)
      omega
  | succ T ihT =>
    intro H hT hH
    induction H with
    | zero =>
      rw [show 12 * (T + 1) + 0 = 12 * T + 12 by omega, ihT 12 (by omega) (by omega)]
      show _ = (allN g T + rowN (g T) (T + 1)) + 0
      rw [rowN_ext 12 (by omega) (fun h q1 _ => hg T h (by omega)) (H := T + 1)]
      omega
    | succ H ih =>
      have ih := ih (by omega)
      show rowN _ (12 * (T + 1) + H) + g ((12 * (T + 1) + H) / 12) ((12 * (T + 1) + H) % 12) = _
      rw [ih, show (12 * (T + 1) + H) / 12 = T + 1 by omega, show (12 * (T + 1) + H) % 12 = H by omega]
      show _ = allN g (T + 1) + (rowN (g (T + 1)) H + g (T + 1) H)
      omega
theorem allN_ext {g : Nat → Nat → Nat} {T0 : Nat} : ∀ T, T0 ≤ T → (∀ t h, T0 ≤ t → h ≤ t → g t h = 0) → allN g T = allN g T0 := by
  intro T
  induction T with
  | zero =>
    intro h _
    rw [show T0 = 0 by omega]
  | succ T ih =>
    intro h hg
    by_cases e : T0 = T + 1
    · rw [e]
    · show allN g T + rowN (g T) (T + 1) = _
      rw [ih (by omega) hg, rowN_zero (T + 1) (fun k hk => hg T k (by omega) (by omega))]
      rfl
theorem flat_all {ru : Nat → Int} {W : Wk} (hr : 1 ≤ ru 1 ∧ ru 1 ≤ 12) (h : DN ru W.de) : rowN (fun k => wNz W (k / 12) (k % 12)) 144 = allN (wNz W) (ru 1).toNat := by
  have z : ∀ t k : Nat, ¬ ((t : Int) < ru 1 ∧ k ≤ t) → wNz W t k = 0 := fun t k q => by unfold wNz; rw [if_pos (h t k q)]
  have e := flat_n (g := wNz W) (fun t k q => z t k (fun y => q y.2)) 11 12 (by omega) (by omega)
  rw [show 144 = 12 * 11 + 12 by omega, e, ← allN_ext 12 (by omega) (fun t k q1 q2 => z t k (fun y => by omega)) (T0 := (ru 1).toNat)]
  rfl
