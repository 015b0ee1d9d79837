-- what is asked: the class
def kA : List Nat := [3, 69, 72, 73, 74, 75, 76, 77, 78, 79, 80, 81, 82, 83, 84, 85, 86, 87, 88, 89, 90, 91, 92, 93, 94, 95, 97] ++ rS
def QK (σ τ : Mm) : Prop := (∀ c, c ∉ kA → τ.1 c = σ.1 c) ∧ (∀ c, c ≠ 71 → τ.2 c = σ.2 c)
theorem QK.rf {σ : Mm} : QK σ σ := ⟨fun _ _ => rfl, fun _ _ => rfl⟩
theorem QK.tr {σ τ ρ : Mm} (h : QK σ τ) (g : QK τ ρ) : QK σ ρ := ⟨fun a q => (g.1 a q).trans (h.1 a q), fun a q => (g.2 a q).trans (h.2 a q)⟩
theorem rS_kA {c : Nat} (h : c ∉ kA) : c ∉ rS := fun q => h (by unfold kA; exact List.mem_append_right _ q)
theorem QK.re {σ τ : Mm} (f : ∀ c, c ∉ rS → τ.1 c = σ.1 c) (g : τ.2 = σ.2) : QK σ τ := ⟨fun c q => f c (rS_kA q), fun c _ => by rw [g]⟩
theorem Fr.qk {σ τ : Mm} (f : Fr [15, 16, 17, 18, 31, 43, 55, 62] σ τ) (g : τ.2 = σ.2) : QK σ τ := QK.re (fun c q => f.1 c (fun z => q (by
  unfold rS
  simp only [List.mem_cons, List.not_mem_nil, or_false] at z
  simp only [List.mem_append, List.mem_cons, List.not_mem_nil, or_false]
  omega))) g
/-- the class holds a loan -/
def KQ (σ : Mm) (ru : Nat → Int) (W : Wk) : Prop := Kr σ 2 W ∧ CI σ ru ∧ WB ru W
theorem KQ.fr {σ τ : Mm} {ru : Nat → Int} {W : Wk} (h : KQ σ ru W) (f : QK σ τ) (hC : CI τ ru) : KQ τ ru W := ⟨h.1.fr (f.1 2 (by decide)), hC, h.2.2⟩
theorem KQ.r {σ : Mm} {ru : Nat → Int} {W : Wk} (h : KQ σ ru W) : ((W.r : Nat) : Int) = W.f 3 ∧ W.r ≤ 2 ∧ ((W.t : Nat) : Int) = W.f 0 ∧ ((W.h : Nat) : Int) = W.f 1 ∧ W.h ≤ W.t ∧ (W.f 6 = 0 ∨ W.f 6 = 1) ∧ (W.f 6 = 0 → (W.t : Int) < ru 1) ∧ (0 ≤ W.f 2 ∧ W.f 2 ≤ 999) := by
  have hW := h.2.2
  unfold WB at hW
  have h1 : ((W.r : Nat) : Int) = W.f 3 := Int.toNat_of_nonneg hW.2.2.1.1
  have h2 : ((W.t : Nat) : Int) = W.f 0 := Int.toNat_of_nonneg (by omega)
  have h3 : ((W.h : Nat) : Int) = W.f 1 := Int.toNat_of_nonneg (by omega)
  omega
theorem KQ.ru {σ : Mm} {ru : Nat → Int} {W : Wk} (h : KQ σ ru W) : σ.1 1 1 = jI (ru 1) ∧ 1 ≤ ru 1 ∧ ru 1 ≤ 12 := by
  have := h.2.1.1.1
  unfold RB at this
  exact ⟨h.2.1.1.2 1 (by omega), by omega, by omega⟩
theorem Nt_cost {τ : Mm} {o : Nat} {ru am : Nat → Int} {ra : Nat → Nat → Int} {pol : Option (Nat → Nat → Int)} {r : Nat} {cp : Int} {N : Nat → Nat → Int} {t h : Nat} (hr : RB ru) (hN : Nt τ o ru am ra pol r cp N t h) (ht : (t : Int) < ru 1) (dd : Int) (hm : dd = 0 ∨ (ru 9 ≤ t ∧ (t : Int) + ru 10 < ru 1) ∧ (dd = 1 ∨ dd = 2 ∧ 0 < r)) : (if dd = 0 then τ.1 (o + 2) (nd t h) else if dd = 1 then τ.1 (o + 5 + (ru 10).toNat) (nd t h) else τ.1 (o + 9 + (ru 10).toNat) (nd t h)) = jI (zcd ru am ra cp (zC ru am ra pol r cp N) N dd t h) := by
  unfold RB at hr
  have e : ((ru 10).toNat : Int) = ru 10 := Int.toNat_of_nonneg (by omega)
  rcases hm with rfl | ⟨h1, rfl | ⟨rfl, h2⟩⟩
  · rw [if_pos rfl]
    exact hN.1
  · rw [if_neg (by decide), if_pos rfl]
    unfold zcd
    rw [if_neg (by decide), if_pos rfl]
    exact hN.2.1 _ (by omega) (by omega)
  · rw [if_neg (by decide), if_neg (by decide)]
    unfold zcd
    rw [if_neg (by decide), if_neg (by decide)]
    exact hN.2.2.1 h2 _ (by omega) (by omega) (by omega)
section KQ1
variable {l : Launch} {G : GT} {d : Nat} {σ : Mm} {Q : Po} {ru : Nat → Int} {W : Wk}
theorem k_over (hK : KQ σ ru W) (hq : Q (some (.int (if W.f 6 = 1 then 1 else 0))) σ) : MW l G (d + 1) mX11_closed [.ref 0] σ Q := by
  obtain ⟨h1, h2, h3⟩ := hK.ru
  refine k_closed (ru 1) (W.f 6) h1 (by omega) (fun _ => ⟨hK.1.1 11 (by omega), hK.r.2.2.2.2.2.1⟩) ?_
  have e : (ru 1 = 0 ∨ W.f 6 = 1) = (W.f 6 = 1) := propext ⟨fun z => by omega, Or.inr⟩
  simp only [e]
  exact hq
theorem k_loan (hK : KQ σ ru W) (hq : Q (some (.int 0)) σ) : MW l G d mX11_noLoan [.ref 0] σ Q := by
  obtain ⟨h1, h2, h3⟩ := hK.ru
  refine k_noLoan (ru 1) h1 (by omega) ?_
  rw [if_neg (by omega)]
  exact hq
theorem k_isN {x y : Int32} (a b : Int) (hK : KQ σ ru W) (ra : R31 a) (rb : R31 b) (hq : Q (some (.int (if isN ru a b then 1 else 0))) σ) (ex : x = jI a := by first | rfl | assumption | (simp only [jlit, jneg, jadd, jsub, jmul]; done) | (simp only [jlit, jneg, jadd, jsub, jmul]; congr 1 <;> omega) | (congr 1 <;> omega)) (ey : y = jI b := by first | rfl | assumption | (simp only [jlit, jneg, jadd, jsub, jmul]; done) | (simp only [jlit, jneg, jadd, jsub, jmul]; congr 1 <;> omega) | (congr 1 <;> omega)) : MW l G d mX11_isNode [.ref 0, .int x, .int y] σ Q := k_isNode (ru 1) a b hK.ru.1 (by have := hK.ru.2; omega) ra rb hq ex ey
theorem k_lookN (hK : KQ σ ru W) (hq : ∀ τ, QK σ τ → CI τ ru → LC τ ru W.am → Q none τ) : MW l G (d + 3) mX8_look [.ref 15, .ref 2, .int 0] σ Q := by
  refine k_look 0 (Or.inl rfl) (by omega) hK.2.1 hK.1.2.2.2.2 (fun τ g1 g2 g3 g4 g5 g6 g7 g8 g9 _ => ?_)
  have L := g2.2.1
  rw [g6, hK.1.2.1] at L
  exact hq τ (g4.qk g5) ⟨g1, Or.inl g3, fun _ => g2⟩ L
def NtA (τ : Mm) (o : Nat) (ru : Nat → Int) (W : Wk) (ra : Nat → Nat → Int) (pol : Option (Nat → Nat → Int)) : Prop := ∀ t h : Nat, (t : Int) < ru 1 → h ≤ t → Nt τ o ru W.am ra pol W.r (W.f 2) (zN ru W.am ra pol W.r) t h
theorem raS_sh (hK : KQ σ ru W) (s : Int) : raS σ 2 s = wRS W s := by
  funext t h
  unfold wRS
  have e := congrFun (congrFun hK.1.2.2.1 t) h
  by_cases q : h ≤ t ∧ t < 12
  · rw [if_pos q, ← e]
    unfold raS
    rw [if_pos q, if_pos q, Int.add_zero]
    have hb := hK.1.2.2.2.2.2.1 (25 + nd t h) (by omega) (by have := nd_lt2 q.2 q.1; omega)
    rw [bnd_id hb.1 hb.2]
  · rw [if_neg q]
    unfold raS
    rw [if_neg q]
theorem k_least (s : Int) {x : Int32} (hs : -99 ≤ s ∧ s ≤ 99) (hK : KQ σ ru W) (hq : ∀ τ, QK σ τ → CI τ ru → SS τ 2 s → LC τ ru W.am → SC τ ru (wRS W s) → NtA τ 31 ru W (wRS W s) none → τ.1 31 5 = jI (W.f 2) → τ.1 31 6 = jI (W.r : Int) → (SS σ 2 s → ∀ c, c ∉ rB 31 0 → τ.1 c = σ.1 c) → Q (some (.ref 31)) τ) (ex : x = jI s := by first | rfl | assumption | (simp only [jlit, jneg, jadd, jsub, jmul]; done) | (simp only [jlit, jneg, jadd, jsub, jmul]; congr 1 <;> omega) | (congr 1 <;> omega)) : MW l G (d + 5) mX8_reckon [.ref 15, .ref 2, .int x, .int 0] σ Q := by
  obtain ⟨hr3, r2, ht, hh, hht, _, _, bc⟩ := hK.r
  refine k_reckonX s 0 (W.f 2) W.r 31 0 none (Or.inl ⟨rfl, rfl, rfl, rfl⟩) (Or.inl rfl) hs hK.2.1 hK.1.2.2.2.2 bc r2 (hK.1.1 2 (by omega)) (by rw [hr3]; exact hK.1.1 3 (by omega)) (fun τ m1 m2 m3 m4 m5 m6 m7 m8 m9 m10 => ?_) ex
  rw [raS_sh hK] at m6 m8
  rw [hK.1.2.1] at m5 m8
  exact hq τ (QK.re m4 m3) m1 m2 m5 m6 m8 m10.1 m10.2.1 m9
theorem wRS_0 (hK : KQ σ ru W) : wRS W 0 = W.ra := by
  rw [← raS_sh hK 0]
  exact hK.1.2.2.1
theorem k_least0 (hK : KQ σ ru W) (hq : ∀ τ, QK σ τ → CI τ ru → SS τ 2 0 → LC τ ru W.am → SC τ ru W.ra → NtA τ 31 ru W W.ra none → τ.1 31 5 = jI (W.f 2) → τ.1 31 6 = jI (W.r : Int) → (SS σ 2 0 → ∀ c, c ∉ rB 31 0 → τ.1 c = σ.1 c) → Q (some (.ref 31)) τ) : MW l G (d + 5) mX8_reckon [.ref 15, .ref 2, .int 0, .int 0] σ Q := by
  refine k_least 0 (by omega) hK (fun τ a1 a2 a3 a4 a5 a6 => ?_)
  rw [wRS_0 hK] at a5 a6
  exact hq τ a1 a2 a3 a4 a5 a6
theorem k_told0 (hK : KQ σ ru W) (hq : ∀ τ, QK σ τ → CI τ ru → SS τ 2 0 → LC τ ru W.am → SC τ ru W.ra → NtA τ 43 ru W W.ra (some W.de) → τ.1 43 5 = jI (W.f 2) → τ.1 43 6 = jI (W.r : Int) → (SS σ 2 0 → ∀ c, c ∉ rB 43 1 → τ.1 c = σ.1 c) → Q (some (.ref 43)) τ) : MW l G (d + 5) mX8_reckon [.ref 15, .ref 2, .int 0, .int 1] σ Q := by
  obtain ⟨hr3, r2, ht, hh, hht, _, _, bc⟩ := hK.r
  refine k_reckonX 0 1 (W.f 2) W.r 43 1 (some W.de) (Or.inr ⟨rfl, rfl, rfl, by rw [hK.1.2.2.2.1]⟩) (Or.inl rfl) (by omega) hK.2.1 hK.1.2.2.2.2 bc r2 (hK.1.1 2 (by omega)) (by rw [hr3]; exact hK.1.1 3 (by omega)) (fun τ m1 m2 m3 m4 m5 m6 m7 m8 m9 m10 => ?_)
  rw [hK.1.2.2.1] at m6 m8
  rw [hK.1.2.1] at m5 m8
  exact hq τ (QK.re m4 m3) m1 m2 m5 m6 m8 m10.1 m10.2.1 m9
theorem k_rule {x : Int32} (i : Int) (hK : KQ σ ru W) (ri : R31 i) (hq : Q (some (.int (jI (aRule ru W i)))) σ) (ex : x = jI i := by first | rfl | assumption | (simp only [jlit, jneg, jadd, jsub, jmul]; done) | (simp only [jlit, jneg, jadd, jsub, jmul]; congr 1 <;> omega) | (congr 1 <;> omega)) : MW l G (d + 1) mX11_rule [.ref 0, .int x] σ Q := by
  unfold aRule at hq
  have no : ¬ (0 ≤ i ∧ i ≤ 13) → Q (some (.int (-1))) σ := fun q => by
    rw [if_neg q] at hq
    exact hq
  refine vX11_rule [] 60 ?_
  refine k_loan hK ?_
  refine And.intro (fun _ => ?_) (fun q => absurd rfl q)
  refine brlt i 0 (fun q => no (by omega)) (fun q1 => ?_)
  refine brlt i 14 (fun q2 => ?_) (fun q => no (by omega))
  rw [if_pos (by omega)] at hq
  refine breq i 2 (fun q2 => ?_) (fun q2 => ?_)
  · rw [if_pos q2] at hq
    exact ldI 115 2 (hK.1.1 2 (by omega)) hq
  · rw [if_neg q2] at hq
    refine breq i 11 (fun q3 => ?_) (fun q3 => ?_)
    · rw [if_pos q3] at hq
      exact ldI 115 3 (hK.1.1 3 (by omega)) hq
    · rw [if_neg q3] at hq
      exact ldI 14 i.toNat (hK.2.1.1.2 i.toNat (by omega)) hq (hi := by rw [ex]; congr 1; omega)
theorem k_deed {x y : Int32} (a b : Int) (hK : KQ σ ru W) (ra : R31 a) (rb : R31 b) (hq : Q (some (.int (jI (aDeed ru W a b)))) σ) (ex : x = jI a := by first | rfl | assumption | (simp only [jlit, jneg, jadd, jsub, jmul]; done) | (simp only [jlit, jneg, jadd, jsub, jmul]; congr 1 <;> omega) | (congr 1 <;> omega)) (ey : y = jI b := by first | rfl | assumption | (simp only [jlit, jneg, jadd, jsub, jmul]; done) | (simp only [jlit, jneg, jadd, jsub, jmul]; congr 1 <;> omega) | (congr 1 <;> omega)) : MW l G (d + 1) mX11_deed [.ref 0, .int x, .int y] σ Q := by
  unfold aDeed at hq
  have h12 := hK.ru
  refine vX11_deed [] 60 ?_
  refine k_isN a b hK ra rb ?_
  refine brz _ (fun q => ?_) (fun q => ?_)
  · rw [if_neg q] at hq
    exact hq
  · rw [if_pos q] at hq
    have hd := hK.1.2.2.2.2.DC hK.2.1.1.1 a.toNat b.toNat (by omega) (by omega)
    rw [hK.1.2.2.2.1] at hd
    exact k_deedOf a.toNat b.toNat (by decide) (by omega) hd.1 hq (by rw [ex]; congr 1; omega) (by rw [ey]; congr 1; omega)
theorem k_best {x y : Int32} (a b : Int) (hK : KQ σ ru W) (ra : R31 a) (rb : R31 b) (hq : ∀ τ, QK σ τ → CI τ ru → Q (some (.int (jI (aBest ru W a b)))) τ) (ex : x = jI a := by first | rfl | assumption | (simp only [jlit, jneg, jadd, jsub, jmul]; done) | (simp only [jlit, jneg, jadd, jsub, jmul]; congr 1 <;> omega) | (congr 1 <;> omega)) (ey : y = jI b := by first | rfl | assumption | (simp only [jlit, jneg, jadd, jsub, jmul]; done) | (simp only [jlit, jneg, jadd, jsub, jmul]; congr 1 <;> omega) | (congr 1 <;> omega)) : MW l G (d + 6) mX11_best [.ref 0, .int x, .int y] σ Q := by
  unfold aBest at hq
  have h12 := hK.ru
  refine vX11_best [] 60 ?_
  refine k_isN a b hK ra rb ?_
  refine brz _ (fun q => ?_) (fun q => ?_)
  · rw [if_neg q] at hq
    exact hq σ QK.rf hK.2.1
  · rw [if_pos q] at hq
    refine k_least0 hK (fun τ g1 g2 g3 g4 g5 g6 g7 g8 g9 => ?_)
    refine k_nodeOf a.toNat b.toNat ?_ (by rw [ex]; congr 1; omega) (by rw [ey]; congr 1; omega)
    have hn := nd_lt2 (t := a.toNat) (h := b.toNat) (by omega) (by omega)
    exact ldI 91 (nd a.toNat b.toNat) (g6 a.toNat b.toNat (by omega) (by omega)).2.2.2.1 (hq τ g1 g2)
theorem k_edge {x : Int32} (y : Int) (hK : KQ σ ru W) (ry : R31 y) (hq : ∀ τ, QK σ τ → CI τ ru → Q (some (.int (jI (aEdge ru W y)))) τ) (ex : x = jI y := by first | rfl | assumption | (simp only [jlit, jneg, jadd, jsub, jmul]; done) | (simp only [jlit, jneg, jadd, jsub, jmul]; congr 1 <;> omega) | (congr 1 <;> omega)) : MW l G (d + 6) mX11_edge [.ref 0, .int x] σ Q := by
  unfold aEdge at hq
  have h12 := hK.ru
  refine vX11_edge [(27, [0, 1, 2, 3])] 60 ?_
  refine k_isN y 0 hK ry (by omega) ?_
  refine brz _ (fun q => ?_) (fun q => ?_)
  · unfold isN at q
    rw [if_neg (by omega)] at hq
    exact hq σ QK.rf hK.2.1
  · unfold isN at q
    rw [if_pos (by omega)] at hq
    refine k_least0 hK (fun τ g1 g2 g3 g4 g5 g6 g7 g8 g9 => ?_)
    have hq := hq τ g1 g2
    have key : ∀ (n h : Nat) (u : Int32), h + n = y.toNat + 1 → u = jI (h : Int) → Q (some (.int (jI (edgeF ru W y.toNat n h)))) τ → Wp l G (d + 6) mX11_edge 27 [(0, .ref 0), (1, .int x), (2, .ref 31), (3, .int u)] [] τ Q := by
      intro n
      induction n with
      | zero =>
        intro h u hn hu hQ
        refine wX11_edge [] 60 ?_
        refine brlt y (h : Int) (fun _ => hQ) (fun z => by omega)
      | succ n ih =>
        intro h u hn hu hQ
        subst hu
        unfold edgeF at hQ
        have hn2 := nd_lt2 (t := y.toNat) (h := h) (by omega) (by omega)
        have bb := wBest_in ru W y.toNat h
        refine wX11_edge [(27, [0, 1, 2, 3])] 60 ?_
        refine brlt y (h : Int) (fun z => by omega) (fun _ => ?_)
        refine k_nodeOf y.toNat h ?_ (by rw [ex]; congr 1; omega)
        refine ldI 91 (nd y.toNat h) (show _ = jI (wBest ru W y.toNat h) from (g6 y.toNat h (by omega) (by omega)).2.2.2.1) ?_
        refine breq (wBest ru W y.toNat h) 0 (fun z => ?_) (fun z => ?_)
        · rw [if_pos z] at hQ
          exact hQ
        · rw [if_neg z] at hQ
          exact ih (h + 1) _ (by omega) (by first | rfl | assumption | (simp only [jlit, jneg, jadd, jsub, jmul]; done) | (simp only [jlit, jneg, jadd, jsub, jmul]; congr 1 <;> omega) | (congr 1 <;> omega)) hQ
    exact key (y.toNat + 1) 0 _ (by omega) rfl hq
end KQ1
