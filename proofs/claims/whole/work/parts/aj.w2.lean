-- a way, purely; by the reference
/-- the best is done, again and again -/
def wkA (ru : Nat → Int) : Nat → Wk → Wk
  | 0, V => V
  | n + 1, V => if V.f 6 = 0 ∧ V.f 4 = 0 ∧ wBest ru V V.t V.h ≠ 0 then wkA ru n (wGive ru V (wBest ru V V.t V.h)) else V
def wk0 (W : Wk) : Wk := (((W.put 4 0).put 5 0).put 7 0).put 11 0
/-- years by moves, till it ends -/
def wkN (ru : Nat → Int) (b : Nat → Int) : Nat → Nat → Wk → Wk
  | 0, _, V => V
  | n + 1, k, V => if V.f 6 = 0 then wkN ru b n (k + 1) (wkA ru 3 (wPass ru V (b k))) else V
def wkE (ru : Nat → Int) (W : Wk) (b : Nat → Int) : Wk := wkN ru b 12 0 (wkA ru 3 (wk0 W))
/-- a move of a row of them -/
def btI (x : Int32) (k : Nat) : Int := ((x >>> (jI (k : Int) &&& 31)) &&& 1).toInt
theorem btI_in (x : Int32) (k : Nat) : btI x k = 0 ∨ btI x k = 1 := by
  unfold btI
  rcases and1 (x >>> (jI (k : Int) &&& 31)) with q | q <;> rw [q]
  · exact Or.inl rfl
  · exact Or.inr rfl
def aWay (ru : Nat → Int) (W : Wk) (x : Int32) (m w : Int) : Int := if W.f 6 = 1 ∨ m < 0 ∨ ¬ (0 ≤ w ∧ w ≤ 2) then -1 else if w = 0 then (wkE ru W (btI x)).f 7 else if w = 1 then (wkE ru W (btI x)).f 11 else (wkE ru W (btI x)).f 0
theorem wRun_2 (ru : Nat → Int) (V : Wk) : (wRun ru V).2 = V.2 := by unfold wRun; split <;> rfl
theorem wGive_2 (ru : Nat → Int) (V : Wk) (ki : Int) : (wGive ru V ki).2 = V.2 := by
  unfold wGive
  split
  · rw [wRun_2]; rfl
  · rfl
theorem wPass_2 (ru : Nat → Int) (V : Wk) (up : Int) : (wPass ru V up).2 = V.2 := by
  have h2 : (wPass2 ru (wPass1 ru V up)).2 = V.2 := by
    unfold wPass2
    split
    · rfl
    · split
      · rw [wRun_2]; rfl
      · rfl
  unfold wPass
  split
  · exact h2
  · exact h2
theorem wGive_n {ru : Nat → Int} {V : Wk} {ki : Int} (h : ru 10 ≠ 0) : (wGive ru V ki).f 6 = V.f 6 ∧ (wGive ru V ki).f 4 = ki ∧ (wGive ru V ki).f 0 = V.f 0 ∧ (wGive ru V ki).f 1 = V.f 1 ∧ (wGive ru V ki).f 2 = V.f 2 ∧ (wGive ru V ki).f 3 = V.f 3 ∧ (wGive ru V ki).f 5 = ru 10 ∧ (wGive ru V ki).f 7 = V.f 7 ∧ (wGive ru V ki).f 11 = V.f 11 := by
  unfold wGive
  rw [if_neg h]
  exact ⟨rfl, rfl, rfl, rfl, rfl, rfl, rfl, rfl, rfl⟩
theorem wRun_1 {ru : Nat → Int} {V : Wk} (h : V.f 4 = 1) : (wRun ru V).f 6 = 1 ∧ (wRun ru V).f 0 = V.f 0 ∧ (wRun ru V).f 1 = V.f 1 ∧ (wRun ru V).f 7 = V.f 7 + zpr ru V.am V.t ∧ (wRun ru V).f 11 = V.f 11 ∧ (wRun ru V).f 4 = 0 ∧ (wRun ru V).f 3 = V.f 3 ∧ (wRun ru V).f 2 = V.f 2 := by
  unfold wRun
  rw [if_pos h]
  exact ⟨rfl, rfl, rfl, rfl, rfl, rfl, rfl, rfl⟩
theorem wRun_0 {ru : Nat → Int} {V : Wk} (h : V.f 4 ≠ 1) : (wRun ru V).f 6 = V.f 6 ∧ (wRun ru V).f 0 = V.f 0 ∧ (wRun ru V).f 1 = V.f 1 ∧ (wRun ru V).f 7 = V.f 7 + (zpr ru V.am V.t - zl ru V.am V.t + ru 13) ∧ (wRun ru V).f 11 = V.f 11 + 1 ∧ (wRun ru V).f 4 = 0 ∧ (wRun ru V).f 3 = V.f 3 - 1 ∧ (wRun ru V).f 2 = zcp ru V.ra V.t V.h := by
  unfold wRun
  rw [if_neg h]
  exact ⟨rfl, rfl, rfl, rfl, rfl, rfl, rfl, rfl⟩
theorem wkA_stop {ru : Nat → Int} {V : Wk} (n : Nat) (h : ¬ (V.f 6 = 0 ∧ V.f 4 = 0)) : wkA ru n V = V := by
  cases n with
  | zero => rfl
  | succ n => show (if V.f 6 = 0 ∧ V.f 4 = 0 ∧ wBest ru V V.t V.h ≠ 0 then _ else V) = V; rw [if_neg (fun q => h ⟨q.1, q.2.1⟩)]
theorem V_t {ru : Nat → Int} {V : Wk} (h : WB ru V) : ((V.t : Nat) : Int) = V.f 0 ∧ ((V.h : Nat) : Int) = V.f 1 ∧ V.h ≤ V.t ∧ ((V.r : Nat) : Int) = V.f 3 ∧ V.r ≤ 2 := by
  obtain ⟨b1, b2, b3, _⟩ := h
  have h0 : ((V.t : Nat) : Int) = V.f 0 := Int.toNat_of_nonneg (by omega)
  have h1 : ((V.h : Nat) : Int) = V.f 1 := Int.toNat_of_nonneg (by omega)
  have h3 : ((V.r : Nat) : Int) = V.f 3 := Int.toNat_of_nonneg (by omega)
  omega
theorem wBest_ok (ru : Nat → Int) (V : Wk) (t h : Nat) : wBest ru V t h = 0 ∨ (ru 9 ≤ (t : Int) ∧ (t : Int) + ru 10 < ru 1) ∧ (wBest ru V t h = 1 ∨ wBest ru V t h = 2 ∧ 0 < (V.r : Int)) := zbd_in
theorem WB_best {ru : Nat → Int} {V : Wk} (hr : RB ru) (hB : WB ru V) (h6 : V.f 6 = 0) (h4 : V.f 4 = 0) (hd : wBest ru V V.t V.h ≠ 0) : WB ru (wGive ru V (wBest ru V V.t V.h)) := by
  have hv := V_t hB
  have hb := wBest_ok ru V V.t V.h
  refine WB_give hr hB h6 h4 _ (by omega) (by omega)
theorem wkA_WB {ru : Nat → Int} (hr : RB ru) : ∀ (n : Nat) (V : Wk), WB ru V → WB ru (wkA ru n V) ∧ (wkA ru n V).2 = V.2
  | 0, V, h => ⟨h, rfl⟩
  | n + 1, V, h => by
    show WB ru (if V.f 6 = 0 ∧ V.f 4 = 0 ∧ wBest ru V V.t V.h ≠ 0 then wkA ru n (wGive ru V (wBest ru V V.t V.h)) else V) ∧ (if V.f 6 = 0 ∧ V.f 4 = 0 ∧ wBest ru V V.t V.h ≠ 0 then wkA ru n (wGive ru V (wBest ru V V.t V.h)) else V).2 = V.2
    by_cases q : V.f 6 = 0 ∧ V.f 4 = 0 ∧ wBest ru V V.t V.h ≠ 0
    · rw [if_pos q]
      have ih := wkA_WB hr n _ (WB_best hr h q.1 q.2.1 q.2.2)
      exact ⟨ih.1, ih.2.trans (wGive_2 ru V _)⟩
    · rw [if_neg q]
      exact ⟨h, rfl⟩
theorem wk0_WB {ru : Nat → Int} {W : Wk} (hB : WB ru W) : WB ru (wk0 W) := by
  obtain ⟨b1, b2, b3, b4, b5, b6, b7, b8, b9, b10⟩ := hB
  exact ⟨b1, b2, b3, by show (0 : Int) ≤ 0 ∧ (0 : Int) ≤ 2; omega, b5, b6, fun q => absurd rfl q, b8, b9, b10⟩
/-- what the tables say along a way -/
def GW (τ : Mm) (ru : Nat → Int) (W : Wk) : Prop := (∀ r, r ≤ W.r → TN τ 115 ru r (zN ru W.am W.ra none r)) ∧ (∀ r, r < W.r → ∀ t h : Nat, (t : Int) < ru 1 → h ≤ t → ∀ i j : Nat, t ≤ i → (i : Int) < ru 1 → j ≤ i → τ.2 115 (ix4 r (12 * t + h + 1) i j) = jL (zC ru W.am W.ra none r (zcp ru W.ra t h) (zN ru W.am W.ra none r) i j))
def RT (τ : Mm) (ru : Nat → Int) (V : Wk) (b : Nat) : Prop := τ.1 98 38 = jI (b : Int) ∧ (V.f 6 = 0 → b ≤ 144 ∧ TB τ 115 ru V.r b V.t (zco ru V.am V.ra none V.r (V.f 2)))
/-- only the way's row, what came and by whose rate are others -/
def FW (σ τ : Mm) : Prop := (∀ a, a ≠ 98 → a ≠ 118 → τ.1 a = σ.1 a) ∧ τ.2 = σ.2 ∧ (∀ k, k ≠ 33 → k ≠ 38 → τ.1 98 k = σ.1 98 k)
theorem FW.rf {σ : Mm} : FW σ σ := ⟨fun _ _ _ => rfl, rfl, fun _ _ _ => rfl⟩
theorem FW.tr {σ τ ρ : Mm} (h : FW σ τ) (g : FW τ ρ) : FW σ ρ := ⟨fun a h1 h2 => (g.1 a h1 h2).trans (h.1 a h1 h2), g.2.1.trans h.2.1, fun k h1 h2 => (g.2.2 k h1 h2).trans (h.2.2 k h1 h2)⟩
theorem FW.fz {σ τ : Mm} (h : Fz 118 σ τ) : FW σ τ := ⟨h.1, h.2.1, fun k h1 _ => h.2.2.1 k h1⟩
theorem FW.by {σ τ : Mm} {v : Int32} (h : FW σ τ) : FW σ (uI τ 98 38 v) := ⟨fun a h1 h2 => by rw [uI_n h1]; exact h.1 a h1 h2, h.2.1, fun k h1 h2 => by rw [uI_ne (Or.inr h2)]; exact h.2.2 k h1 h2⟩
theorem GW.fr {σ τ : Mm} {ru : Nat → Int} {W : Wk} (h : GW σ ru W) (e : τ.2 = σ.2) : GW τ ru W := ⟨fun r hr q0 t k q1 q2 => by rw [e]; exact h.1 r hr q0 t k q1 q2, fun r hr t k q1 q2 i j q3 q4 q5 => by rw [e]; exact h.2 r hr t k q1 q2 i j q3 q4 q5⟩
theorem zco_b {ru : Nat → Int} {W : Wk} (hr : RB ru) (hB : WB ru W) {cp : Int} (hc : 0 ≤ cp ∧ cp ≤ 999) (r : Nat) (r2 : r ≤ 2) (t h : Nat) (ht : (t : Int) ≤ ru 1) (hh : h ≤ t) : B30 (zco ru W.am W.ra none r cp t h) := by
  have := zC_b hr hB cp hc r r2 t h ht hh
  show 0 ≤ zC ru W.am W.ra none r cp (zN ru W.am W.ra none r) t h ∧ zC ru W.am W.ra none r cp (zN ru W.am W.ra none r) t h ≤ 1073741824
  omega
section MWa
variable {l : Launch} {G : GT} {d : Nat} {σ : Mm} {Q : Po} {ru : Nat → Int} {W V : Wk}
/-- a new loan's table, from the node where it begins -/
theorem RT_new {τ : Mm} {b : Nat} (hr : RB ru) (hW : WB ru W) (hV : WB ru V) (h2 : V.2 = W.2) (hG : GW τ ru W) (hrr : V.r < W.r) (hc : V.f 2 = zcp ru W.ra V.t V.h) (hb : b = 12 * V.t + V.h + 1) (e : τ.1 98 38 = jI (b : Int)) : RT τ ru V b := by
  have hv := V_t hV
  have hr' := hr
  unfold RB at hr'
  refine ⟨e, fun h6 => ?_⟩
  have hT := hV.2.2.2.2.2.1 h6
  have ea : V.am = W.am := by unfold Wk.am; rw [h2]
  have er : V.ra = W.ra := by unfold Wk.ra; rw [h2]
  rw [ea, er, hc, hb]
  have hcp : 0 ≤ zcp ru W.ra V.t V.h ∧ zcp ru W.ra V.t V.h ≤ 999 := zcp_in hr (hW.2.2.2.2.2.2.2.2.1 V.t V.h).1
  refine ⟨by omega, fun t h q1 q2 q3 => ⟨fun q4 => hG.2 V.r hrr V.t V.h (by omega) hv.2.2.1 t h q1 q4 q3, fun q4 => zC_end q4, zco_b hr hW hcp V.r (by omega) t h q2 q3⟩⟩
theorem c_walkGives {x : Int32} {b : Nat} (dd : Int) (hE : ME σ ru) (hs : σ.1 98 27 = 0) (hL : LY σ ru W.am) (hG : GW σ ru W) (hW : WB ru W) (hM : Mr σ ru 118 V) (hV : WB ru V) (h2 : V.2 = W.2) (hrr : V.r ≤ W.r) (h6 : V.f 6 = 0) (h4 : V.f 4 = 0) (hR : RT σ ru V b) (hdd : dd = wBest ru V V.t V.h) (hd : dd ≠ 0)
    (hq : ∀ τ, FW σ τ → Mr τ ru 118 (wGive ru V dd) → (wGive ru V dd).r ≤ W.r → (∃ b', RT τ ru (wGive ru V dd) b') → Q none τ) (ex : x = jI dd := by first | rfl | assumption | (simp only [jlit, jneg, jadd, jsub, jmul]; done) | (simp only [jlit, jneg, jadd, jsub, jmul]; congr 1 <;> omega) | (congr 1 <;> omega)) : MW l G (d + 5) mX12_walkGives [.ref 98, .int x] σ Q := by
  have hr := hE.1
  have hr' := hr
  unfold RB at hr'
  have hv := V_t hV
  have hb := wBest_ok ru V V.t V.h
  rw [← hdd] at hb
  have hT := hV.2.2.2.2.2.1 h6
  have ea : V.am = W.am := by unfold Wk.am; rw [h2]
  have er : V.ra = W.ra := by unfold Wk.ra; rw [h2]
  have hB' : WB ru (wGive ru V dd) := by rw [hdd]; exact WB_best hr hV h6 h4 (by rw [← hdd]; exact hd)
  refine vX12_walkGives [] 40 ?_
  refine c_givesNotice (w := 118) V.t V.h dd (Or.inr (Or.inr rfl)) hE hM hs (by rw [ea]; exact hL) hv.1.symm hv.2.1.symm (by omega) hv.2.2.1 (by omega) (fun τ f1 f2 f3 => ?_) ex
  have F1 := FW.fz f1
  have hE1 : ME τ ru := hE.fr (F1.1 101 (by decide) (by decide))
  have old : (wGive ru V dd).r ≤ W.r → (wGive ru V dd).f 2 = V.f 2 ∧ (wGive ru V dd).f 3 = V.f 3 ∧ (wGive ru V dd).f 0 = V.f 0 ∨ (wGive ru V dd).f 6 ≠ 0 → ∃ b', RT τ ru (wGive ru V dd) b' := by
    intro _ k
    refine ⟨b, by rw [f1.2.2.1 38 (by decide)]; exact hR.1, fun z6 => ?_⟩
    rcases k with k | k
    · have z2 := (hR.2 h6).2
      refine ⟨(hR.2 h6).1, fun t h q1 q2 q3 => ?_⟩
      have e2 := wGive_2 ru V dd
      have ea' : (wGive ru V dd).am = V.am := by unfold Wk.am; rw [e2]
      have er' : (wGive ru V dd).ra = V.ra := by unfold Wk.ra; rw [e2]
      have e3 : (wGive ru V dd).r = V.r := by unfold Wk.r; rw [k.2.1]
      have e0 : (wGive ru V dd).t = V.t := by unfold Wk.t; rw [k.2.2]
      rw [e0] at q1
      rw [ea', er', e3, k.1, F1.2.1]
      exact z2 t h q1 q2 q3
    · exact absurd z6 k
  refine breq dd 2 (fun q => ?_) (fun q => ?_) (hx := ex) (hy := rfl)
  · refine ldI 14 10 (hE1.2 10 (by omega)) ?_ (hi := rfl)
    refine breq (ru 10) 0 (fun q2 => ?_) (fun q2 => ?_) (hx := rfl) (hy := rfl)
    · -- renewed at once
      have hg : (wGive ru V dd).f 0 = V.f 0 ∧ (wGive ru V dd).f 1 = V.f 1 ∧ (wGive ru V dd).f 3 = V.f 3 - 1 ∧ (wGive ru V dd).f 2 = zcp ru V.ra V.t V.h := by
        unfold wGive
        rw [if_pos q2]
        have z := wRun_0 (ru := ru) (V := (V.put 4 dd).put 5 (ru 10)) (show dd ≠ 1 by omega)
        exact ⟨z.2.1, z.2.2.1, z.2.2.2.2.2.2.1, z.2.2.2.2.2.2.2⟩
      have hv' := V_t hB'
      have et : (wGive ru V dd).t = V.t := by unfold Wk.t; rw [hg.1]
      have eh : (wGive ru V dd).h = V.h := by unfold Wk.h; rw [hg.2.1]
      refine ldI 494 0 (show _ = jI (V.t : Int) by rw [f3.1 0 (by omega), hg.1, hv.1]) ?_ (hi := rfl)
      refine ldI 494 1 (show _ = jI (V.h : Int) by rw [f3.1 1 (by omega), hg.2.1, hv.2.1]) ?_ (hi := rfl)
      refine c_node (V.t : Int) (V.h : Int) ?_ rfl rfl
      refine hq _ F1.by (f3.fr (fun k _ => by rw [uI_n (by decide)]) hr) (by omega) ⟨12 * V.t + V.h + 1, ?_⟩
      refine RT_new hr hW hB' ((wGive_2 ru V dd).trans h2) (hG.fr F1.2.1) (by omega) ?_ (by rw [et, eh]) (by rw [uI_at]; simp only [jlit, jadd]; congr 1)
      rw [hg.2.2.2, er, et, eh]
    · have z := wGive_n (ru := ru) (V := V) (ki := dd) q2
      have e3 : (wGive ru V dd).r = V.r := by unfold Wk.r; rw [z.2.2.2.2.2.1]
      refine hq τ F1 f3 (by omega) (old (by omega) (Or.inl ⟨z.2.2.2.2.1, z.2.2.2.2.2.1, z.2.2.1⟩))
  · have d1 : dd = 1 := by omega
    by_cases q2 : ru 10 = 0
    · have hg : (wGive ru V dd).f 6 = 1 ∧ (wGive ru V dd).f 3 = V.f 3 := by
        unfold wGive
        rw [if_pos q2]
        have z := wRun_1 (ru := ru) (V := (V.put 4 dd).put 5 (ru 10)) (show dd = 1 from d1)
        exact ⟨z.1, z.2.2.2.2.2.2.1⟩
      have e3 : (wGive ru V dd).r = V.r := by unfold Wk.r; rw [hg.2]
      exact hq τ F1 f3 (by omega) (old (by omega) (Or.inr (by omega)))
    · have z := wGive_n (ru := ru) (V := V) (ki := dd) q2
      have e3 : (wGive ru V dd).r = V.r := by unfold Wk.r; rw [z.2.2.2.2.2.1]
      exact hq τ F1 f3 (by omega) (old (by omega) (Or.inl ⟨z.2.2.2.2.1, z.2.2.2.2.2.1, z.2.2.1⟩))
theorem c_walkActs {b : Nat} (hE : ME σ ru) (hs : σ.1 98 27 = 0) (hL : LY σ ru W.am) (hG : GW σ ru W) (hW : WB ru W) (hM : Mr σ ru 118 V) (hV : WB ru V) (h2 : V.2 = W.2) (hrr : V.r ≤ W.r) (hR : RT σ ru V b)
    (hq : ∀ τ, FW σ τ → Mr τ ru 118 (wkA ru 3 V) → (wkA ru 3 V).r ≤ W.r → (∃ b', RT τ ru (wkA ru 3 V) b') → Q none τ) : MW l G (d + 8) mX12_walkActs [.ref 98] σ Q := by
  have hr := hE.1
  have hr' := hr
  unfold RB at hr'
  have v6 : ∀ (τ : Mm) (U : Wk), Mr τ ru 118 U → WB ru U → ∀ (A B : Prop), (U.f 6 = 0 → A) → (U.f 6 ≠ 0 → B) → (τ.1 118 6 = 0 → A) ∧ (¬ τ.1 118 6 = 0 → B) := by
    intro τ U hU hBU A B hA hB9
    have := hBU.2.2.2.2.1
    exact breq (U.f 6) 0 hA hB9 (hx := hU.1 6 (by omega)) (hy := rfl)
  -- at the head
  have key : ∀ (n : Nat) (U : Wk) (τ : Mm) (c : Nat), FW σ τ → Mr τ ru 118 U → WB ru U → U.2 = W.2 → U.r ≤ W.r → RT τ ru U c → (U.f 6 = 0 ∧ U.f 4 = 0 → U.r < n) → wkA ru 3 V = wkA ru n U → ∀ g : Int32, (g = if U.f 6 = 0 ∧ U.f 4 = 0 then 1 else 0) → Wp l G (d + 8) mX12_walkActs 25 [(0, .ref 98), (1, .int g)] [] τ Q := by
    intro n
    induction n with
    | zero =>
      intro U τ c F hU hBU hU2 hUr hRU hn he g hg
      have hno : ¬ (U.f 6 = 0 ∧ U.f 4 = 0) := fun q => by have := hn q; omega
      rw [if_neg hno] at hg
      refine wX12_walkActs [] 40 ?_
      refine And.intro (fun _ => ?_) (fun q => absurd hg q)
      rw [show wkA ru 0 U = U from rfl] at he
      exact hq τ F (by rw [he]; exact hU) (by rw [he]; exact hUr) ⟨c, by rw [he]; exact hRU⟩
    | succ n ih =>
      intro U τ c F hU hBU hU2 hUr hRU hn he g hg
      have hv := V_t hBU
      have hE1 : ME τ ru := hE.fr (F.1 101 (by decide) (by decide))
      have hs1 : τ.1 98 27 = 0 := by rw [F.2.2 27 (by decide) (by decide)]; exact hs
      have hL1 : LY τ ru W.am := hL.fr (F.1 112 (by decide) (by decide)) (F.1 113 (by decide) (by decide)) (F.1 114 (by decide) (by decide))
      have hG1 := hG.fr F.2.1
      have ea : U.am = W.am := by unfold Wk.am; rw [hU2]
      have er : U.ra = W.ra := by unfold Wk.ra; rw [hU2]
      by_cases hgo : U.f 6 = 0 ∧ U.f 4 = 0
      · rw [if_pos hgo] at hg
        have hT := hBU.2.2.2.2.2.1 hgo.1
        have hb := wBest_ok ru U U.t U.h
        have es : wkA ru (n + 1) U = if U.f 6 = 0 ∧ U.f 4 = 0 ∧ wBest ru U U.t U.h ≠ 0 then wkA ru n (wGive ru U (wBest ru U U.t U.h)) else U := rfl
        have hP := hU.PM hE1 (Or.inr (Or.inr rfl)) hs1
        obtain ⟨c1, c2⟩ := hRU.2 hgo.1
        refine wX12_walkActs [(25, [0, 1])] 80 ?_
        refine And.intro (fun q => absurd (hg.symm.trans q) (by decide)) (fun _ => ?_)
        refine ldI 494 3 (show _ = jI (U.r : Int) by rw [hU.1 3 (by omega), hv.2.2.2.1]) ?_ (hi := rfl)
        refine ldI 494 2 (hU.1 2 (by omega)) ?_ (hi := rfl)
        refine ldI 494 0 (show _ = jI (U.t : Int) by rw [hU.1 0 (by omega), hv.1]) ?_ (hi := rfl)
        refine ldI 494 1 (show _ = jI (U.h : Int) by rw [hU.1 1 (by omega), hv.2.1]) ?_ (hi := rfl)
        refine c_bestDeed (w := 118) (T := 115) (am := U.am) U.r c U.t U.h (U.f 2) (zco ru U.am U.ra none U.r (U.f 2)) (zN ru U.am U.ra none U.r) hP (by rw [ea]; exact hL1) (by decide) hv.2.2.2.2 c1 (by omega) hv.2.2.1 hBU.2.1 (fun t h q1 q2 q3 => c2 t h (by omega) q2 q3) (by rw [ea, er]; exact hG1.1 U.r hUr) ?_ rfl hRU.1 rfl rfl rfl
        rw [show zbd ru U.am U.ra (U.f 2) (zco ru U.am U.ra none U.r (U.f 2)) (zN ru U.am U.ra none U.r) U.r U.t U.h = wBest ru U U.t U.h from rfl]
        refine breq (wBest ru U U.t U.h) 0 (fun q => ?_) (fun q => ?_) (hx := rfl) (hy := rfl)
        · rw [if_neg (fun k => k.2.2 q)] at es
          refine And.intro (fun _ => ?_) (fun k => absurd rfl k)
          exact hq τ F (by rw [he, es]; exact hU) (by rw [he, es]; exact hUr) ⟨c, by rw [he, es]; exact hRU⟩
        · rw [if_pos ⟨hgo.1, hgo.2, q⟩] at es
          refine And.intro (fun k => absurd k (by decide)) (fun _ => ?_)
          have hB' := WB_best hr hBU hgo.1 hgo.2 q
          refine c_walkGives (wBest ru U U.t U.h) hE1 hs1 hL1 hG1 hW hU hBU hU2 hUr hgo.1 hgo.2 hRU rfl q (fun ρ f1 f2 f3 f4 => ?_) rfl
          obtain ⟨c', f4⟩ := f4
          have hv' := V_t hB'
          have hn' : (wGive ru U (wBest ru U U.t U.h)).f 6 = 0 ∧ (wGive ru U (wBest ru U U.t U.h)).f 4 = 0 → (wGive ru U (wBest ru U U.t U.h)).r < n := by
            intro k
            have hUn := hn hgo
            by_cases q2 : ru 10 = 0
            · by_cases d2 : wBest ru U U.t U.h = 1
              · exfalso
                have : (wGive ru U (wBest ru U U.t U.h)).f 6 = 1 := by
                  unfold wGive
                  rw [if_pos q2]
                  exact (wRun_1 (ru := ru) (V := (U.put 4 (wBest ru U U.t U.h)).put 5 (ru 10)) (show wBest ru U U.t U.h = 1 from d2)).1
                omega
              · have : (wGive ru U (wBest ru U U.t U.h)).f 3 = U.f 3 - 1 := by
                  unfold wGive
                  rw [if_pos q2]
                  exact (wRun_0 (ru := ru) (V := (U.put 4 (wBest ru U U.t U.h)).put 5 (ru 10)) (show wBest ru U U.t U.h ≠ 1 from d2)).2.2.2.2.2.2.1
                omega
            · have := (wGive_n (ru := ru) (V := U) (ki := wBest ru U U.t U.h) q2).2.1
              omega
          have go := fun g hg' => ih (wGive ru U (wBest ru U U.t U.h)) ρ c' (F.tr f1) f2 hB' ((wGive_2 ru U _).trans hU2) f3 f4 hn' (he.trans es) g hg'
          have k4 := hB'.2.2.2.1
          refine ldI 494 6 rfl ?_ (hi := rfl)
          refine v6 ρ _ f2 hB' _ _ (fun z6 => ?_) (fun z6 => ?_)
          · refine ldI 494 4 (f2.1 4 (by omega)) ?_ (hi := rfl)
            refine breq ((wGive ru U (wBest ru U U.t U.h)).f 4) 0 (fun z4 => ?_) (fun z4 => ?_) (hx := rfl) (hy := rfl)
            · exact go 1 (by rw [if_pos ⟨z6, z4⟩])
            · exact go 0 (by rw [if_neg (fun k => z4 k.2)])
          · exact go 0 (by rw [if_neg (fun k => z6 k.1)])
      · rw [if_neg hgo] at hg
        rw [wkA_stop (n + 1) hgo] at he
        refine wX12_walkActs [] 40 ?_
        refine And.intro (fun _ => ?_) (fun q => absurd hg q)
        exact hq τ F (by rw [he]; exact hU) (by rw [he]; exact hUr) ⟨c, by rw [he]; exact hRU⟩
  have hv := V_t hV
  have k4 := hV.2.2.2.1
  have go := key 3 V σ b FW.rf hM hV h2 hrr hR (fun _ => by omega) rfl
  refine vX12_walkActs [(25, [0, 1])] 40 ?_
  refine ldI 494 6 rfl ?_ (hi := rfl)
  refine v6 σ V hM hV _ _ (fun z6 => ?_) (fun z6 => ?_)
  · refine ldI 494 4 (hM.1 4 (by omega)) ?_ (hi := rfl)
    refine breq (V.f 4) 0 (fun z4 => ?_) (fun z4 => ?_) (hx := rfl) (hy := rfl)
    · exact go 1 (by rw [if_pos ⟨z6, z4⟩])
    · exact go 0 (by rw [if_neg (fun k => z4 k.2)])
  · exact go 0 (by rw [if_neg (fun k => z6 k.1)])
end MWa
