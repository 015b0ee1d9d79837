-- all ways together, purely
def gF {α : Type} (op : α → α → α) (e : α) (f : Nat → α) : Nat → α
  | 0 => e
  | k + 1 => op (gF op e f k) (f k)
theorem gF_congr {α : Type} {op : α → α → α} {e : α} {f g : Nat → α} : ∀ m, (∀ k, k < m → f k = g k) → gF op e f m = gF op e g m
  | 0, _ => rfl
  | m + 1, h => by
    show op (gF op e f m) (f m) = op (gF op e g m) (g m)
    rw [gF_congr m (fun k hk => h k (by omega)), h m (by omega)]
theorem gF_split {α : Type} {op : α → α → α} {e : α} (assoc : ∀ a b c, op (op a b) c = op a (op b c)) (comm : ∀ a b, op a b = op b a) (ide : op e e = e) (f : Nat → α) : ∀ m, gF op e f (2 * m) = op (gF op e (fun r => f (2 * r)) m) (gF op e (fun r => f (2 * r + 1)) m)
  | 0 => ide.symm
  | m + 1 => by
    show op (op (gF op e f (2 * m)) (f (2 * m))) (f (2 * m + 1)) = op (op (gF op e (fun r => f (2 * r)) m) (f (2 * m))) (op (gF op e (fun r => f (2 * r + 1)) m) (f (2 * m + 1)))
    rw [gF_split assoc comm ide f m]
    generalize gF op e (fun r => f (2 * r)) m = F0
    generalize gF op e (fun r => f (2 * r + 1)) m = F1
    generalize f (2 * m) = a
    generalize f (2 * m + 1) = b
    rw [assoc (op F0 F1) a b, assoc F0 F1 (op a b), ← assoc F1 a b, comm F1 a, assoc a F1 b, ← assoc F0 a (op F1 b)]
/-- the end of the way whose moves are the number's bits -/
def eK (ru : Nat → Int) : Nat → Wk → Nat → Wk
  | 0, V, _ => V
  | n + 1, V, q => if V.f 6 = 0 then eK ru n (wkA ru 3 (wPass ru V ((q % 2 : Nat) : Int))) (q / 2) else V
def bq (q i : Nat) : Int := ((q / 2 ^ i % 2 : Nat) : Int)
theorem wkN_sh (ru : Nat → Int) (b : Nat → Int) : ∀ (n k : Nat) (V : Wk), wkN ru b n (k + 1) V = wkN ru (fun i => b (i + 1)) n k V
  | 0, k, V => rfl
  | n + 1, k, V => by
    show (if V.f 6 = 0 then wkN ru b n (k + 1 + 1) (wkA ru 3 (wPass ru V (b (k + 1)))) else V) = (if V.f 6 = 0 then wkN ru (fun i => b (i + 1)) n (k + 1) (wkA ru 3 (wPass ru V (b (k + 1)))) else V)
    rw [wkN_sh ru b n (k + 1)]
theorem wkN_congr (ru : Nat → Int) {b c : Nat → Int} : ∀ (n k : Nat) (V : Wk), (∀ i, k ≤ i → i < k + n → b i = c i) → wkN ru b n k V = wkN ru c n k V
  | 0, k, V, _ => rfl
  | n + 1, k, V, h => by
    show (if V.f 6 = 0 then wkN ru b n (k + 1) (wkA ru 3 (wPass ru V (b k))) else V) = (if V.f 6 = 0 then wkN ru c n (k + 1) (wkA ru 3 (wPass ru V (c k))) else V)
    rw [h k (by omega) (by omega), wkN_congr ru n (k + 1) _ (fun i h1 h2 => h i (by omega) (by omega))]
theorem wkN_eK (ru : Nat → Int) : ∀ (n : Nat) (V : Wk) (q : Nat), wkN ru (bq q) n 0 V = eK ru n V q
  | 0, V, q => rfl
  | n + 1, V, q => by
    show (if V.f 6 = 0 then wkN ru (bq q) n (0 + 1) (wkA ru 3 (wPass ru V (bq q 0))) else V) = (if V.f 6 = 0 then eK ru n (wkA ru 3 (wPass ru V ((q % 2 : Nat) : Int))) (q / 2) else V)
    have e0 : bq q 0 = ((q % 2 : Nat) : Int) := by unfold bq; rw [Nat.pow_zero, Nat.div_one]
    have e1 : (fun i => bq q (i + 1)) = bq (q / 2) := by
      funext i
      unfold bq
      rw [Nat.pow_succ, Nat.mul_comm, Nat.div_div_eq_div_mul]
    rw [wkN_sh, e1, e0, wkN_eK ru n]
theorem wkE_eK {ru : Nat → Int} {W : Wk} (hr : RB ru) (hW : WB ru W) (h6 : W.f 6 = 0) {q : Nat} (hq : q < 2147483648) : wkE ru W (btI (jI (q : Int))) = eK ru ((ru 1).toNat - W.t) (wkA ru 3 (wk0 W)) q := by
  have hr' := hr
  unfold RB at hr'
  rw [← wkE_n hr hW h6 (btI_in _), ← wkN_eK]
  refine wkN_congr ru _ 0 _ (fun i _ h2 => ?_)
  exact btI_v hq (by omega)
section Agg
variable {ru : Nat → Int} {W : Wk}
theorem lv_agg {α : Type} {op : α → α → α} {e : α} (assoc : ∀ a b c, op (op a b) c = op a (op b c)) (comm : ∀ a b, op a b = op b a) (ide : op e e = e) (g : Wk → α) (upd : α → Wk → α) (hr : RB ru) (hW : WB ru W) (b : Nat → Int) (hupd : ∀ (a : α) (E : Wk) (n : Nat), US ru W E → E.f 0 + n = ru 1 → upd a E = op a (gF op e (fun _ => g E) (2 ^ n))) : ∀ (n k : Nat) (V : Wk) (a : α), US ru W V → V.f 0 + n = ru 1 → (lvN ru true b n k V).foldl upd a = op a (gF op e (fun q => g (eK ru n V q)) (2 ^ n))
  | 0, k, V, a, hU, hn => hupd a V 0 hU hn
  | n + 1, k, V, a, hU, hn => by
    by_cases q : V.f 6 = 0
    · have es : lvN ru true b (n + 1) k V = lvN ru true b n (k + 1) (wkA ru 3 (wPass ru V 0)) ++ lvN ru true b n (k + 1) (wkA ru 3 (wPass ru V 1)) := by
        show (if V.f 6 = 0 then (if true = true then _ else _) else [V]) = _
        rw [if_pos q, if_pos rfl]
      have hs : ∀ up : Int, (up = 0 ∨ up = 1) → US ru W (wkA ru 3 (wPass ru V up)) ∧ (wkA ru 3 (wPass ru V up)).f 0 + n = ru 1 := fun up hup => by
        have h1 := US_act hr hW 3 _ (US_pass hr hW hU q up hup)
        have h2 := (wkA_11 ru 3 (wPass ru V up)).2.1
        have h3 := (wPass_v ru V up).1
        push_cast at hn
        exact ⟨h1, by omega⟩
      have s0 := hs 0 (Or.inl rfl)
      have s1 := hs 1 (Or.inr rfl)
      rw [es, List.foldl_append, lv_agg assoc comm ide g upd hr hW b hupd n (k + 1) _ a s0.1 s0.2, lv_agg assoc comm ide g upd hr hW b hupd n (k + 1) _ _ s1.1 s1.2, assoc]
      congr 1
      rw [show 2 ^ (n + 1) = 2 * 2 ^ n by rw [Nat.pow_succ]; omega, gF_split assoc comm ide]
      have e0 : ∀ r : Nat, eK ru (n + 1) V (2 * r) = eK ru n (wkA ru 3 (wPass ru V 0)) r := fun r => by
        show (if V.f 6 = 0 then eK ru n (wkA ru 3 (wPass ru V ((2 * r % 2 : Nat) : Int))) (2 * r / 2) else V) = _
        rw [if_pos q, show 2 * r % 2 = 0 by omega, show 2 * r / 2 = r by omega]
        rfl
      have e1 : ∀ r : Nat, eK ru (n + 1) V (2 * r + 1) = eK ru n (wkA ru 3 (wPass ru V 1)) r := fun r => by
        show (if V.f 6 = 0 then eK ru n (wkA ru 3 (wPass ru V (((2 * r + 1) % 2 : Nat) : Int))) ((2 * r + 1) / 2) else V) = _
        rw [if_pos q, show (2 * r + 1) % 2 = 1 by omega, show (2 * r + 1) / 2 = r by omega]
        rfl
      rw [gF_congr (2 ^ n) (fun r _ => congrArg g (e0 r)), gF_congr (2 ^ n) (fun r _ => congrArg g (e1 r))]
    · have es : lvN ru true b (n + 1) k V = [V] := lvN_end (n + 1) k q
      have ee : ∀ r : Nat, eK ru (n + 1) V r = V := fun r => by
        show (if V.f 6 = 0 then _ else V) = V
        rw [if_neg q]
      rw [es, gF_congr (2 ^ (n + 1)) (fun r _ => congrArg g (ee r))]
      exact hupd a V (n + 1) hU hn
theorem gF_const_min {c : Int} : ∀ m, 0 < m → gF min (163840 : Int) (fun _ => c) m = min 163840 c
  | 0, h => by omega
  | 1, _ => rfl
  | m + 2, _ => by
    show min (gF min (163840 : Int) (fun _ => c) (m + 1)) c = _
    rw [gF_const_min (m + 1) (by omega)]
    omega
theorem gF_const_max {c : Int} : ∀ m, 0 < m → gF max (0 : Int) (fun _ => c) m = max 0 c
  | 0, h => by omega
  | 1, _ => rfl
  | m + 2, _ => by
    show max (gF max (0 : Int) (fun _ => c) (m + 1)) c = _
    rw [gF_const_max (m + 1) (by omega)]
    omega
theorem gF_const_add {c : Int} : ∀ m : Nat, gF (fun a b : Int => a + b) 0 (fun _ => c) m = c * m
  | 0 => by show (0 : Int) = c * ((0 : Nat) : Int); simp
  | m + 1 => by
    show gF (fun a b : Int => a + b) 0 (fun _ => c) m + c = _
    rw [gF_const_add m]
    push_cast
    rw [Int.mul_add, Int.mul_one]
theorem gF_const_or {c : Bool} : ∀ m, 0 < m → gF (fun a b : Bool => a || b) false (fun _ => c) m = c
  | 0, h => by omega
  | 1, _ => by show (false || c) = c; exact Bool.false_or c
  | m + 2, _ => by
    show (gF (fun a b : Bool => a || b) false (fun _ => c) (m + 1) || c) = c
    rw [gF_const_or (m + 1) (by omega)]
    exact Bool.or_self c
theorem fin_1 (ru : Nat → Int) : ∀ (L : List Wk) (A : Ag), (L.foldl (finA true ru) A).2.1.1 = L.foldl (fun a E => min a (E.f 7)) A.2.1.1
  | [], _ => rfl
  | E :: L, A => by rw [List.foldl_cons, List.foldl_cons, fin_1 ru L]; rfl
theorem fin_2 (ru : Nat → Int) : ∀ (L : List Wk) (A : Ag), (L.foldl (finA true ru) A).2.1.2.1 = L.foldl (fun a E => max a (E.f 7)) A.2.1.2.1
  | [], _ => rfl
  | E :: L, A => by rw [List.foldl_cons, List.foldl_cons, fin_2 ru L]; rfl
theorem fin_3 (ru : Nat → Int) : ∀ (L : List Wk) (A : Ag), (L.foldl (finA true ru) A).2.1.2.2.1 = L.foldl (fun a E => a + (if E.f 0 < ru 1 then (wtE ru E : Int) else 0)) A.2.1.2.2.1
  | [], _ => rfl
  | E :: L, A => by rw [List.foldl_cons, List.foldl_cons, fin_3 ru L]; rfl
theorem fin_4 (ru : Nat → Int) : ∀ (L : List Wk) (A : Ag), (L.foldl (finA true ru) A).2.1.2.2.2 = L.foldl (fun a E => a + E.f 7 * (wtE ru E : Int)) A.2.1.2.2.2
  | [], _ => rfl
  | E :: L, A => by rw [List.foldl_cons, List.foldl_cons, fin_4 ru L]; rfl
theorem fin_5 (ru : Nat → Int) (v : Nat) : ∀ (L : List Wk) (A : Ag), (L.foldl (finA true ru) A).2.2 v = L.foldl (fun a E => a || decide ((v : Int) = E.f 7)) (A.2.2 v)
  | [], _ => rfl
  | E :: L, A => by rw [List.foldl_cons, List.foldl_cons, fin_5 ru v L]; rfl
theorem wt_n (hr : RB ru) {E : Wk} (h : US ru W E) {n : Nat} (hn : E.f 0 + n = ru 1) : wtE ru E = 2 ^ n := by
  have := h.1.1
  unfold RB at hr
  unfold wtE
  congr 1
  omega
/-- the ways' sums paid, by number -/
def pK (ru : Nat → Int) (W : Wk) (q : Nat) : Int := (eK ru ((ru 1).toNat - W.t) (wkA ru 3 (wk0 W)) q).f 7
def yK (ru : Nat → Int) (W : Wk) (q : Nat) : Int := (eK ru ((ru 1).toNat - W.t) (wkA ru 3 (wk0 W)) q).f 0
def nK (ru : Nat → Int) (W : Wk) : Nat := 2 ^ ((ru 1).toNat - W.t)
def vsB (s : Nat → Int) (n v : Nat) : Bool := gF (fun a b : Bool => a || b) false (fun q => decide ((v : Int) = s q)) n
theorem agg_all (hr : RB ru) (hW : WB ru W) (h6 : W.f 6 = 0) (b : Nat → Int) (p : Int × Int × Int) :
    ((lvN ru true b ((ru 1).toNat - W.t) 0 (wkA ru 3 (wk0 W))).foldl (finA true ru) (Ag0 p)).2.1.1 = gF min 163840 (pK ru W) (nK ru W) ∧
    ((lvN ru true b ((ru 1).toNat - W.t) 0 (wkA ru 3 (wk0 W))).foldl (finA true ru) (Ag0 p)).2.1.2.1 = gF max 0 (pK ru W) (nK ru W) ∧
    ((lvN ru true b ((ru 1).toNat - W.t) 0 (wkA ru 3 (wk0 W))).foldl (finA true ru) (Ag0 p)).2.1.2.2.1 = gF (fun a b : Int => a + b) 0 (fun q => if yK ru W q < ru 1 then 1 else 0) (nK ru W) ∧
    ((lvN ru true b ((ru 1).toNat - W.t) 0 (wkA ru 3 (wk0 W))).foldl (finA true ru) (Ag0 p)).2.1.2.2.2 = gF (fun a b : Int => a + b) 0 (pK ru W) (nK ru W) ∧
    (∀ v, ((lvN ru true b ((ru 1).toNat - W.t) 0 (wkA ru 3 (wk0 W))).foldl (finA true ru) (Ag0 p)).2.2 v = vsB (pK ru W) (nK ru W) v) := by
  have hv := V_t hW
  have hT := hW.2.2.2.2.2.1 h6
  have U0 := US_act hr hW 3 _ (US_0 hr hW h6)
  have n0 : (wkA ru 3 (wk0 W)).f 0 + (((ru 1).toNat - W.t : Nat) : Int) = ru 1 := by
    rw [(wkA_11 ru 3 (wk0 W)).2.1]
    show W.f 0 + _ = ru 1
    omega
  have pos : ∀ n : Nat, 0 < 2 ^ n := fun n => Nat.pow_pos (by omega)
  refine ⟨?_, ?_, ?_, ?_, fun v => ?_⟩
  · rw [fin_1]
    have := lv_agg (op := min) (e := (163840 : Int)) (fun a b c => by omega) (fun a b => by omega) (by omega) (fun E => E.f 7) (fun a E => min a (E.f 7)) hr hW b (fun a E n hE hn => ?_) ((ru 1).toNat - W.t) 0 (wkA ru 3 (wk0 W)) 163840 U0 n0
    · show (lvN ru true b ((ru 1).toNat - W.t) 0 (wkA ru 3 (wk0 W))).foldl (fun a E => min a (E.f 7)) 163840 = _
      rw [this]
      show min 163840 (gF min 163840 (pK ru W) (nK ru W)) = gF min 163840 (pK ru W) (nK ru W)
      have : ∀ m, gF min 163840 (pK ru W) m ≤ 163840 := by
        intro m
        induction m with
        | zero => exact Int.le_refl _
        | succ m ih => show min (gF min 163840 (pK ru W) m) (pK ru W m) ≤ 163840; omega
      have := this (nK ru W)
      omega
    · have h7 := US_7 hr hW hE
      rw [gF_const_min _ (pos n)]
      omega
  · rw [fin_2]
    have := lv_agg (op := max) (e := (0 : Int)) (fun a b c => by omega) (fun a b => by omega) (by omega) (fun E => E.f 7) (fun a E => max a (E.f 7)) hr hW b (fun a E n hE hn => ?_) ((ru 1).toNat - W.t) 0 (wkA ru 3 (wk0 W)) 0 U0 n0
    · show (lvN ru true b ((ru 1).toNat - W.t) 0 (wkA ru 3 (wk0 W))).foldl (fun a E => max a (E.f 7)) 0 = _
      rw [this]
      show max 0 (gF max 0 (pK ru W) (nK ru W)) = gF max 0 (pK ru W) (nK ru W)
      have : ∀ m, 0 ≤ gF max 0 (pK ru W) m := by
        intro m
        induction m with
        | zero => exact Int.le_refl _
        | succ m ih => show 0 ≤ max (gF max 0 (pK ru W) m) (pK ru W m); omega
      have := this (nK ru W)
      omega
    · have h7 := US_7 hr hW hE
      rw [gF_const_max _ (pos n)]
      omega
  · rw [fin_3]
    have := lv_agg (op := fun a b : Int => a + b) (e := (0 : Int)) (fun a b c => Int.add_assoc a b c) (fun a b => Int.add_comm a b) (by omega) (fun E => if E.f 0 < ru 1 then (1 : Int) else 0) (fun a E => a + (if E.f 0 < ru 1 then (wtE ru E : Int) else 0)) hr hW b (fun a E n hE hn => ?_) ((ru 1).toNat - W.t) 0 (wkA ru 3 (wk0 W)) 0 U0 n0
    · show (lvN ru true b ((ru 1).toNat - W.t) 0 (wkA ru 3 (wk0 W))).foldl (fun a E => a + (if E.f 0 < ru 1 then (wtE ru E : Int) else 0)) 0 = _
      rw [this]
      exact Int.zero_add _
    · rw [gF_const_add, wt_n hr hE hn]
      by_cases q : E.f 0 < ru 1
      · rw [if_pos q, if_pos q, Int.one_mul]
      · rw [if_neg q, if_neg q, Int.zero_mul]
  · rw [fin_4]
    have := lv_agg (op := fun a b : Int => a + b) (e := (0 : Int)) (fun a b c => Int.add_assoc a b c) (fun a b => Int.add_comm a b) (by omega) (fun E => E.f 7) (fun a E => a + E.f 7 * (wtE ru E : Int)) hr hW b (fun a E n hE hn => ?_) ((ru 1).toNat - W.t) 0 (wkA ru 3 (wk0 W)) 0 U0 n0
    · show (lvN ru true b ((ru 1).toNat - W.t) 0 (wkA ru 3 (wk0 W))).foldl (fun a E => a + E.f 7 * (wtE ru E : Int)) 0 = _
      rw [this]
      exact Int.zero_add _
    · rw [gF_const_add, wt_n hr hE hn]
  · rw [fin_5]
    have := lv_agg (op := fun a b : Bool => a || b) (e := false) (fun a b c => Bool.or_assoc a b c) (fun a b => Bool.or_comm a b) rfl (fun E => decide ((v : Int) = E.f 7)) (fun a E => a || decide ((v : Int) = E.f 7)) hr hW b (fun a E n hE hn => ?_) ((ru 1).toNat - W.t) 0 (wkA ru 3 (wk0 W)) false U0 n0
    · show (lvN ru true b ((ru 1).toNat - W.t) 0 (wkA ru 3 (wk0 W))).foldl (fun a E => a || decide ((v : Int) = E.f 7)) false = _
      rw [this]
      exact Bool.false_or _
    · rw [gF_const_or _ (pos n)]
end Agg
def aSpread (ru : Nat → Int) (W : Wk) (M : Nat) (w : Int) : Int := if W.f 6 = 1 ∨ ¬ (0 ≤ w ∧ w ≤ 4) then -1 else if w = 0 then gF min 163840 (pK ru W) (nK ru W) else if w = 1 then gF max 0 (pK ru W) (nK ru W) else if w = 2 then gF (fun a b : Int => a + b) 0 (fun q => if yK ru W q < ru 1 then 1 else 0) (nK ru W) else if w = 3 then (cntB (vsB (pK ru W) (nK ru W)) M : Int) else gF (fun a b : Int => a + b) 0 (pK ru W) (nK ru W)
