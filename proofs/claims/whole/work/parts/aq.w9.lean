-- go, way: the class
section KGo
variable {l : Launch} {G : GT} {d : Nat} {σ : Mm} {Q : Po} {ru : Nat → Int} {W : Wk}
theorem c_fillJ {v : Int64} (hq : ∀ τ : Mm, τ.1 = σ.1 → (∀ b, b ≠ 71 → τ.2 b = σ.2 b) → (∀ j, j < 2560 → τ.2 71 j = v) → Q none τ) : MW l G d mJ7_fill_d0a16 [.ref 71, .long v] σ Q := by
  have key : ∀ (m i : Nat) (τ : Mm) (u y : Int32), i + m = 2560 → u = jI (i : Int) → y = jI 2560 → τ.1 = σ.1 → (∀ b, b ≠ 71 → τ.2 b = σ.2 b) → (∀ j, j < i → τ.2 71 j = v) → Wp l G d mJ7_fill_d0a16 6 [(0, .ref 71), (1, .long v), (3, .int u), (4, .int y)] [] τ Q := by
    intro m
    induction m with
    | zero =>
      intro i τ u y hm hu ey e1 e2 e3
      refine wJ7_fill_d0a16 [] 40 ?_
      refine brle 2560 (i : Int) (fun _ => ?_) (fun z => by omega) (hx := ey) (hy := hu)
      exact hq τ e1 e2 (fun j hj => e3 j (by omega))
    | succ m ih =>
      intro i τ u y hm hu ey e1 e2 e3
      refine wJ7_fill_d0a16 [(6, [0, 1, 3, 4])] 40 ?_
      refine brle 2560 (i : Int) (fun z => by omega) (fun _ => ?_) (hx := ey) (hy := hu)
      refine stI 2560 i ?_ (hi := hu)
      refine ih (i + 1) _ _ _ (by omega) (by rw [hu]; simp only [jlit, jadd]; congr 1) ey e1 (fun b hb => by rw [uJ_n hb]; exact e2 b hb) (fun j hj => ?_)
      rw [uJ_s]
      by_cases e : j = i
      · rw [e, updL_s]
      · rw [updL_n e]
        exact e3 j (by omega)
  refine vJ7_fill_d0a16 [(6, [0, 1, 3, 4])] 40 ?_
  exact key 2560 0 σ _ _ (by omega) rfl rfl rfl (fun _ _ => rfl) (fun j hj => by omega)
theorem k_leastW (hK : KQ σ ru W) (hq : ∀ τ, (∀ c, c ∉ rS → τ.1 c = σ.1 c) → τ.2 = σ.2 → CI τ ru → LC τ ru W.am → SC τ ru W.ra → NtA τ 31 ru W W.ra none → τ.1 31 5 = jI (W.f 2) → τ.1 31 6 = jI (W.r : Int) → (∀ j : Nat, j < W.r → ∀ t h : Nat, ru 9 + ru 10 ≤ t → (t : Int) < ru 1 → h ≤ t → τ.1 (57 + j) (nd t h) = jI (zN ru W.am W.ra none (j + 1) t h)) → Q (some (.ref 31)) τ) : MW l G (d + 5) mX8_reckon [.ref 15, .ref 2, .int 0, .int 0] σ Q := by
  obtain ⟨hr3, r2, ht, hh, hht, _, _, bc⟩ := hK.r
  refine k_reckonX 0 0 (W.f 2) W.r 31 0 none (Or.inl ⟨rfl, rfl, rfl, rfl⟩) (Or.inl rfl) (by omega) hK.2.1 hK.1.2.2.2.2 bc r2 (hK.1.1 2 (by omega)) (by rw [hr3]; exact hK.1.1 3 (by omega)) (fun τ m1 m2 m3 m4 m5 m6 m7 m8 m9 m10 => ?_)
  have e2 : τ.1 2 = σ.1 2 := m4 2 (by decide)
  have ea : amS τ 55 = W.am := (amS_eq (fun j q1 q2 => (m2.2.1 j q1 q2).trans (by rw [e2]))).trans hK.1.2.1
  have er : raS τ 55 0 = W.ra := (raS_eq (σ := σ) (a := 2) (s := 0) (fun j q1 q2 => by
    rw [m2.2.2.1 j q1 q2, e2, Int.add_zero, Int.add_zero]
    have b := bnd_in (σ.1 2 j).toInt
    rw [jI_T (by omega), bnd_id b.1 b.2])).trans hK.1.2.2.1
  have hL := (m1.2.2 m2.1).2.2.1
  rw [ea, er] at hL
  obtain ⟨k, k2, k3, k4⟩ := hL
  obtain ⟨k', z1, z2, z3, z4⟩ := m10.2.2
  have ek : k' = k := by
    have := (jeq (by omega) (by omega)).mp (z3.symm.trans k3)
    omega
  rw [hK.1.2.2.1] at m6 m8
  rw [hK.1.2.1] at m5 m8
  refine hq τ m4 m3 m1 m5 m6 m8 m10.1 m10.2.1 (fun j hj t h q1 q2 q3 => ?_)
  have := k4 j (by omega) t h q1 q2 q3
  rw [show 57 + 3 * 0 + j = 57 + j by omega] at this
  exact this
/-- before any way -/
def Ag0 (p : Int × Int × Int) : Ag := (p, (163840, 0, 0, 0), fun _ => false)
theorem cntB_0 : ∀ M, cntB (fun _ => false) M = 0
  | 0 => rfl
  | M + 1 => by
    show cntB (fun _ => false) M + (if false = true then 1 else 0) = 0
    rw [cntB_0 M]
    rfl
theorem k_go {M : Nat} {v x : Int32} (all : Bool) (hM : M = 163840) (hK : KQ σ ru W) (h6 : W.f 6 = 0) (hx : ∃ m : Nat, m < 2147483648 ∧ x = jI (m : Int)) (ev : v = if all = true then 1 else 0)
    (hq : ∀ τ p, QK σ τ → CI τ ru → AG M τ ((lvN ru all (btI x) ((ru 1).toNat - W.t) 0 (wkA ru 3 (wk0 W))).foldl (finA all ru) (Ag0 p)) → Q none τ) : MW l G (d + 51) mX10_go [.ref 69, .ref 2, .int x, .int v] σ Q := by
  have h12 := hK.ru
  have hr := hK.2.1.1.1
  have hW := hK.2.2
  obtain ⟨hr3, r2, ht, hh, hht, _, h6t, bc⟩ := hK.r
  have hT := h6t h6
  have hv01 : v = 0 ∨ v = 1 := by rw [ev]; cases all; exact Or.inl rfl; exact Or.inr rfl
  refine vX10_go [] 80 ?_
  refine And.intro hv01 ?_
  refine ldI 115 0 (show _ = jI (W.f 0) by rw [uI_n (by decide), uI_n (by decide)]; exact hK.1.1 0 (by omega)) ?_ (hi := rfl)
  refine c_fillJ (fun τ g1 g2 g3 => ?_)
  have c69 : ∀ c, c ≠ 69 → τ.1 c = σ.1 c := fun c hc => by rw [g1, uI_n hc, uI_n hc, uI_n hc, uI_n hc, uI_n hc, uI_n hc, uI_n hc, uI_n hc]
  have F1 : QK σ τ := ⟨fun c hc => c69 c (fun z => hc (by rw [z]; decide)), fun c hc => by rw [g2 c hc]; rfl⟩
  have C1 : CI τ ru := hK.2.1.frS (c69 1 (by decide)) (fun c hc => c69 c (by rintro rfl; exact absurd hc (by decide)))
  have K1 : KQ τ ru W := hK.fr F1 C1
  refine k_leastW K1 (fun ρ f1 f2 C2 L2 S2 N2 a5 a6 R2 => ?_)
  have e69 : ρ.1 69 = τ.1 69 := f1 69 (by decide)
  have F2 : QK σ ρ := F1.tr (QK.re f1 f2)
  have K2 : KQ ρ ru W := hK.fr F2 C2
  have v14 : ρ.1 69 14 = jI (W.f 0) := by
    rw [e69, g1, uI_ne (Or.inr (by decide)), uI_ne (Or.inr (by decide)), uI_ne (Or.inr (by decide)), uI_ne (Or.inr (by decide)), uI_ne (Or.inr (by decide)), uI_at]
  have v13 : ρ.1 69 13 = x := by
    rw [e69, g1, uI_ne (Or.inr (by decide)), uI_ne (Or.inr (by decide)), uI_ne (Or.inr (by decide)), uI_ne (Or.inr (by decide)), uI_ne (Or.inr (by decide)), uI_ne (Or.inr (by decide)), uI_at]
  have v12 : ρ.1 69 12 = v := by
    rw [e69, g1, uI_ne (Or.inr (by decide)), uI_ne (Or.inr (by decide)), uI_ne (Or.inr (by decide)), uI_ne (Or.inr (by decide)), uI_ne (Or.inr (by decide)), uI_ne (Or.inr (by decide)), uI_ne (Or.inr (by decide)), uI_at]
  have v3 : ρ.1 69 3 = jI 163840 := by
    rw [e69, g1, uI_ne (Or.inr (by decide)), uI_ne (Or.inr (by decide)), uI_ne (Or.inr (by decide)), uI_ne (Or.inr (by decide)), uI_at]
    rfl
  have v4 : ρ.1 69 4 = jI 0 := by
    rw [e69, g1, uI_ne (Or.inr (by decide)), uI_ne (Or.inr (by decide)), uI_ne (Or.inr (by decide)), uI_at]
    rfl
  have v5 : ρ.1 69 5 = jI 0 := by
    rw [e69, g1, uI_ne (Or.inr (by decide)), uI_ne (Or.inr (by decide)), uI_at]
    rfl
  have v6 : ρ.1 69 6 = jI 0 := by
    rw [e69, g1, uI_ne (Or.inr (by decide)), uI_at]
    rfl
  have v7 : ρ.1 69 7 = jI 0 := by
    rw [e69, g1, uI_at]
    rfl
  refine ldI 115 1 (K2.1.1 1 (by omega)) ?_ (hi := rfl)
  have hAG : AG M ρ (Ag0 ((ρ.1 69 0).toInt, (ρ.1 69 1).toInt, (ρ.1 69 2).toInt)) := by
    refine ⟨⟨(jI_of _).symm, (jI_of _).symm, (jI_of _).symm⟩, ⟨v3, v4, v5, v7⟩, ?_, fun w hw => ?_, by show (0 : Int) ≤ 163840 ∧ (163840 : Int) ≤ 163840; omega, by show (0 : Int) ≤ 0 ∧ (0 : Int) ≤ 163840; omega⟩
    · rw [v6, show (Ag0 ((ρ.1 69 0).toInt, (ρ.1 69 1).toInt, (ρ.1 69 2).toInt)).2.2 = fun _ => false from rfl, cntB_0 M]
      rfl
    · show bsB (ρ.2 71) w = false
      unfold bsB
      rw [f2, g3 (w / 64) (by omega)]
      have z : ∀ k : Nat, (0 : Int64).toBitVec.getLsbD k = false := fun k => by
        show (0#64).getLsbD k = false
        exact BitVec.getLsbD_zero
      exact z _
  have X2 : WX ρ ru W all x := ⟨C2.1, L2, S2, R2, by rw [v12]; exact ev, v13, v14⟩
  have U0 := US_0 hr hW h6
  refine k_arrive (l := l) (G := G) (all := all) (x := x) hM hr hW hx ((ru 1).toNat - W.t) 0 (by omega) (d + 50) ρ _ (wk0 W) _ _ _ _ _ (by omega) X2 U0 rfl ?_ rfl (fun _ => ⟨h6, ?_, ?_, fun t h q1 q2 q3 q4 => ?_⟩) hAG rfl v14 rfl rfl (fun θ p1 p2 => ?_)
  · show W.f 0 + (((ru 1).toNat - W.t : Nat) : Int) = ru 1
    omega
  · exact a5
  · rw [show (wk0 W).f 3 = (W.r : Int) from hr3.symm]
    exact a6
  · exact N2 t h q2 (by have : (wk0 W).h = W.h := rfl; have : (wk0 W).t = W.t := rfl; omega)
  · refine hq θ _ (F2.tr ⟨fun c hc => p1.1 c (fun z => hc ?_), p1.2.1⟩) (C2.frS (p1.1 1 (by decide)) (fun c hc => p1.1 c ?_)) (by rw [show (wk0 W).t - W.t = 0 from Nat.sub_self _] at p2; exact p2)
    · have : ∀ c ∈ wS 0, c ∈ kA := by decide
      exact this c z
    · have : ∀ c ∈ cS, c ∉ wS 0 := by decide
      exact this c hc
theorem lvN_one (ru : Nat → Int) (b : Nat → Int) : ∀ (n k : Nat) (V : Wk), lvN ru false b n k V = [wkN ru b n k V]
  | 0, k, V => rfl
  | n + 1, k, V => by
    show (if V.f 6 = 0 then (if false = true then _ else lvN ru false b n (k + 1) (wkA ru 3 (wPass ru V (b k)))) else [V]) = [if V.f 6 = 0 then wkN ru b n (k + 1) (wkA ru 3 (wPass ru V (b k))) else V]
    by_cases q : V.f 6 = 0
    · rw [if_pos q, if_pos q, if_neg (by decide)]
      exact lvN_one ru b n (k + 1) _
    · rw [if_neg q, if_neg q]
/-- enough years: more fuel gives the same -/
theorem wkN_fuel {b : Nat → Int} (hr : RB ru) (hb : ∀ k, b k = 0 ∨ b k = 1) : ∀ (n k : Nat) (V : Wk), WB ru V → (V.f 6 = 0 → ru 1 - V.f 0 ≤ n) → wkN ru b n k V = wkN ru b (n + 1) k V
  | 0, k, V, hB, h => by
    have z : V.f 6 ≠ 0 := fun q => by have := h q; have := hB.2.2.2.2.2.1 q; omega
    rw [wkN_stop 0 k z, wkN_stop 1 k z]
  | n + 1, k, V, hB, h => by
    show (if V.f 6 = 0 then wkN ru b n (k + 1) (wkA ru 3 (wPass ru V (b k))) else V) = (if V.f 6 = 0 then wkN ru b (n + 1) (k + 1) (wkA ru 3 (wPass ru V (b k))) else V)
    by_cases q : V.f 6 = 0
    · rw [if_pos q, if_pos q]
      have hP := WB_pass hr hB q (b k) (hb k)
      have a := wkA_WB hr 3 _ hP
      have a11 := wkA_11 ru 3 (wPass ru V (b k))
      have pv := wPass_v ru V (b k)
      refine wkN_fuel hr hb n (k + 1) _ a.1 (fun _ => ?_)
      have := h q
      rw [a11.2.1, pv.1]
      push_cast at this
      omega
    · rw [if_neg q, if_neg q]
theorem wkN_more {b : Nat → Int} (hr : RB ru) (hb : ∀ k, b k = 0 ∨ b k = 1) {V : Wk} (hB : WB ru V) (n k : Nat) (h : V.f 6 = 0 → ru 1 - V.f 0 ≤ n) : ∀ m, wkN ru b (n + m) k V = wkN ru b n k V
  | 0 => rfl
  | m + 1 => by
    rw [show n + (m + 1) = (n + m) + 1 by omega, ← wkN_fuel hr hb (n + m) k V hB (fun q => by have := h q; omega)]
    exact wkN_more hr hb hB n k h m
theorem wkE_n {b : Nat → Int} (hr : RB ru) (hW : WB ru W) (h6 : W.f 6 = 0) (hb : ∀ k, b k = 0 ∨ b k = 1) : wkN ru b ((ru 1).toNat - W.t) 0 (wkA ru 3 (wk0 W)) = wkE ru W b := by
  have hv := V_t hW
  have hT := hW.2.2.2.2.2.1 h6
  have hr' := hr
  unfold RB at hr'
  have a := wkA_WB hr 3 (wk0 W) (wk0_WB hW)
  have a11 := wkA_11 ru 3 (wk0 W)
  have := wkN_more (b := b) hr hb a.1 ((ru 1).toNat - W.t) 0 (fun _ => by rw [a11.2.1]; show ru 1 - W.f 0 ≤ _; omega) (12 - ((ru 1).toNat - W.t))
  rw [show (ru 1).toNat - W.t + (12 - ((ru 1).toNat - W.t)) = 12 by omega] at this
  exact this.symm
theorem k_way {x y : Int32} (m w : Int) (hK : KQ σ ru W) (rm : R31 m) (rw' : R31 w) (hq : ∀ τ, QK σ τ → CI τ ru → Q (some (.int (jI (aWay ru W x m w)))) τ) (ex : x = jI m := by first | rfl | assumption | (simp only [jlit, jneg, jadd, jsub, jmul]; done) | (simp only [jlit, jneg, jadd, jsub, jmul]; congr 1 <;> omega) | (congr 1 <;> omega)) (ey : y = jI w := by first | rfl | assumption | (simp only [jlit, jneg, jadd, jsub, jmul]; done) | (simp only [jlit, jneg, jadd, jsub, jmul]; congr 1 <;> omega) | (congr 1 <;> omega)) : MW l G (d + 52) mX11_way [.ref 0, .int x, .int y] σ Q := by
  have hr := hK.2.1.1.1
  obtain ⟨_, _, _, _, _, z6, _, _⟩ := hK.r
  unfold aWay at hq
  refine vX11_way [] 60 ?_
  refine k_over hK ?_
  refine brz _ (fun q => ?_) (fun q => ?_)
  · have h6 : W.f 6 = 0 := by omega
    refine brlt m 0 (fun q1 => ?_) (fun q1 => ?_) (hx := ex) (hy := rfl)
    · rw [if_pos (Or.inr (Or.inl q1))] at hq
      exact hq σ QK.rf hK.2.1
    · refine brlt w 0 (fun q2 => ?_) (fun q2 => ?_) (hx := ey) (hy := rfl)
      · rw [if_pos (Or.inr (Or.inr (by omega)))] at hq
        exact hq σ QK.rf hK.2.1
      · refine brle w 2 (fun q3 => ?_) (fun q3 => ?_) (hx := ey) (hy := rfl)
        · rw [if_neg (by omega)] at hq
          refine k_go (M := 163840) false rfl hK h6 ⟨m.toNat, by omega, by rw [ex]; congr 1; omega⟩ rfl (fun τ p F C hA => ?_)
          have hq := hq τ F C
          rw [lvN_one, wkE_n hr hK.2.2 h6 (btI_in x)] at hA
          have hA := hA.1
          refine breq w 0 (fun e0 => ?_) (fun e0 => ?_) (hx := ey) (hy := rfl)
          · rw [if_pos e0, show (wkE ru W (btI x)).f 7 = ([wkE ru W (btI x)].foldl (finA false ru) (Ag0 p)).1.1 from rfl, ← hA.1] at hq
            exact hq
          · rw [if_neg e0] at hq
            refine breq w 1 (fun e1 => ?_) (fun e1 => ?_) (hx := ey) (hy := rfl)
            · rw [if_pos e1, show (wkE ru W (btI x)).f 11 = ([wkE ru W (btI x)].foldl (finA false ru) (Ag0 p)).1.2.1 from rfl, ← hA.2.1] at hq
              exact hq
            · rw [if_neg e1, show (wkE ru W (btI x)).f 0 = ([wkE ru W (btI x)].foldl (finA false ru) (Ag0 p)).1.2.2 from rfl, ← hA.2.2] at hq
              exact hq
        · rw [if_pos (Or.inr (Or.inr (by omega)))] at hq
          exact hq σ QK.rf hK.2.1
  · rw [if_pos (Or.inl q)] at hq
    exact hq σ QK.rf hK.2.1
end KGo
