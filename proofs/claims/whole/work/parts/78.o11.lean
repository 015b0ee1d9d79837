-- attempt of the class
def cS : List Nat := [15, 16, 17, 18, 31, 43, 55, 57, 58, 60, 61, 62] ++ (bS 31 ++ bS 43)
theorem CI.frS {σ τ : Mm} {ru : Nat → Int} (h : CI σ ru) (e1 : τ.1 1 = σ.1 1) (e : ∀ c, c ∈ cS → τ.1 c = σ.1 c) : CI τ ru := by
  obtain ⟨h1, h2, h3⟩ := h
  have hr := h1.1
  have e15 := e 15 (by decide)
  refine ⟨h1.fr e1, by rw [e15]; exact h2, fun q => ?_⟩
  rw [e15] at q
  obtain ⟨j1, j2, j3, j4, j5, j6⟩ := h3 q
  have g55 := e 55 (by decide)
  have xa : amS τ 55 = amS σ 55 := amS_eq (fun j _ _ => by rw [g55])
  have xr : raS τ 55 0 = raS σ 55 0 := raS_eq (fun j _ _ => by rw [g55])
  have xd : deS τ 55 = deS σ 55 := deS_eq (fun j _ _ => by rw [g55])
  unfold CJ
  rw [xa, xr, xd]
  refine ⟨⟨fun j => ?_, fun j => ?_, fun t h => ?_⟩, j2.fr (e 16 (by decide)) (e 17 (by decide)) (e 18 (by decide)), j3.fr (by rw [e 62 (by decide)]) (fun j hj => e _ ?_), j4.fr (by rw [e 62 (by decide)]) (fun j hj => e _ ?_), j5.fr hr (e 31 (by decide)) (by rw [e 62 (by decide)]) (fun c hc => e c ?_), j6.fr hr (e 43 (by decide)) (by rw [e 62 (by decide)]) (fun c hc => e c ?_)⟩
  · rw [g55]; exact j1.1 j
  · rw [g55]; exact j1.2.1 j
  · rw [xd]; exact j1.2.2 t h
  · have : j = 0 ∨ j = 1 := by omega
    rcases this with rfl | rfl <;> decide
  · have : j = 0 ∨ j = 1 := by omega
    rcases this with rfl | rfl <;> decide
  · unfold cS
    simp only [List.mem_append]
    exact Or.inr (Or.inl hc)
  · unfold cS
    simp only [List.mem_append]
    exact Or.inr (Or.inr hc)
theorem CI.fr2 {σ τ : Mm} {ru : Nat → Int} (h : CI σ ru) (e : ∀ c, c ≠ 2 → c ≠ 63 → τ.1 c = σ.1 c) : CI τ ru := by
  refine h.frS (e 1 (by decide) (by decide)) (fun c hc => e c ?_ ?_)
  · rintro rfl
    exact absurd hc (by decide)
  · rintro rfl
    exact absurd hc (by decide)
section KAt
variable {l : Launch} {G : GT} {d : Nat} {σ : Mm} {Q : Po} {ru : Nat → Int} {W : Wk}
theorem k_attempt {x y z u : Int32} (k a b c : Int) (hK : Kr σ 2 W) (hC : CI σ ru) (hB : WB ru W) (hk : 0 ≤ k ∧ k ≤ 9) (ra : R31 a) (rb : R31 b) (rc : R31 c)
    (hq : ∀ τ : Mm, (∀ c, c ≠ 2 → c ≠ 63 → c ∉ rS → τ.1 c = σ.1 c) → τ.2 = σ.2 → CI τ ru → Kr τ 2 (wOut ru W k a b c).2.2.2 → ((wOut ru W k a b c).1 = -1 → τ.1 63 3 = jI (wOut ru W k a b c).2.2.1) → Q (some (.int (jI (if (wOut ru W k a b c).1 = -1 then (wOut ru W k a b c).2.1 else -1 - (wOut ru W k a b c).1)))) τ)
    (ex : x = jI k := by first | rfl | assumption | (simp only [jlit, jneg, jadd, jsub, jmul]; done) | (simp only [jlit, jneg, jadd, jsub, jmul]; congr 1 <;> omega) | (congr 1 <;> omega)) (ey : y = jI a := by first | rfl | assumption | (simp only [jlit, jneg, jadd, jsub, jmul]; done) | (simp only [jlit, jneg, jadd, jsub, jmul]; congr 1 <;> omega) | (congr 1 <;> omega)) (ez : z = jI b := by first | rfl | assumption | (simp only [jlit, jneg, jadd, jsub, jmul]; done) | (simp only [jlit, jneg, jadd, jsub, jmul]; congr 1 <;> omega) | (congr 1 <;> omega)) (eu : u = jI c := by first | rfl | assumption | (simp only [jlit, jneg, jadd, jsub, jmul]; done) | (simp only [jlit, jneg, jadd, jsub, jmul]; congr 1 <;> omega) | (congr 1 <;> omega)) : MW l G (d + 6) mX3_attempt [.ref 63, .int x, .int y, .int z, .int u] σ Q := by
  have hR := hC.1
  have hr := hR.1
  have hr' := hr
  unfold RB at hr'
  have hB' := hB
  obtain ⟨b1, bc, b3, b4, b6, b7, b8, t1, t2, t3⟩ := hB'
  have xk : x.toInt = k := by rw [ex]; exact jI_T (by omega)
  have ht : ((W.t : Nat) : Int) = W.f 0 := Int.toNat_of_nonneg (by omega)
  have hh : ((W.h : Nat) : Int) = W.f 1 := Int.toNat_of_nonneg (by omega)
  have hr3 : ((W.r : Nat) : Int) = W.f 3 := Int.toNat_of_nonneg b3.1
  refine vX3_attempt [(43, [0, 1, 2, 3, 4])] 80 ?_
  refine ldI 14 1 (hR.2 1 (by omega)) ?_
  refine breq (ru 1) 0 (fun q => by omega) (fun _ => ?_)
  refine ldI 115 11 (show σ.1 2 11 = jI (W.f 6) from hK.1 11 (by omega)) ?_
  refine breq (W.f 6) 0 (fun h6 => ?_) (fun h6 => ?_)
  · have hT := b7 h6
    have hzl : ∀ ki : Int, (ki = 1 ∨ ki = 2) → (ki ≤ zla ru (W.f 0) (W.f 3) ↔ (ru 9 ≤ W.f 0 ∧ W.f 0 + ru 10 < ru 1) ∧ (ki = 1 ∨ 0 < W.f 3)) := by
      intro ki hki
      unfold zla
      split
      · split <;> omega
      · omega
    have nw : wWhy ru W k a b c ≠ -1 → wOut ru W k a b c = (wWhy ru W k a b c, 0, 0, W) := fun q => by unfold wOut; rw [if_pos q]
    have yw : wWhy ru W k a b c = -1 → wOut ru W k a b c = wDone ru W k a b c := fun q => by unfold wOut; rw [if_neg (fun z => z q)]
    have fail : ∀ (w : Int), wOut ru W k a b c = (w, 0, 0, W) → w ≠ -1 → ∀ ρ : Mm, (∀ c, c ≠ 2 → c ≠ 63 → c ∉ rS → ρ.1 c = σ.1 c) → ρ.2 = σ.2 → Kr ρ 2 W → CI ρ ru → Q (some (.int (jI (-1 - w)))) ρ := by
      intro w e hw ρ f1 f2 K hCI
      rw [e] at hq
      have := hq ρ f1 f2 hCI K (fun q => absurd q hw)
      rw [show (if (w, (0 : Int), (0 : Int), W).1 = -1 then (0 : Int) else -1 - w) = -1 - w from if_neg hw] at this
      exact this
    have good : ∀ (cm nt : Int) (V : Wk), wOut ru W k a b c = (-1, cm, nt, V) → ∀ ρ : Mm, (∀ c, c ≠ 2 → c ≠ 63 → c ∉ rS → ρ.1 c = σ.1 c) → ρ.2 = σ.2 → CI ρ ru → ∀ τ : Mm, (∀ c, c ≠ 2 → c ≠ 63 → τ.1 c = ρ.1 c) → τ.2 = ρ.2 → τ.1 63 3 = jI nt → Kr τ 2 V → Q (some (.int (jI cm))) τ := by
      intro cm nt V e ρ f1 f2 hCI τ r1 r2 r3 r4
      rw [e] at hq
      exact hq τ (fun c q1 q2 q3 => (r1 c q1 q2).trans (f1 c q1 q2 q3)) (r2.trans f2) (hCI.fr2 r1) r4 (fun _ => r3)
    have carry : ∀ dd : Int, wOut ru W k a b c = wDeed ru W dd → (dd = 0 ∨ (ru 9 ≤ (W.t : Int) ∧ (W.t : Int) + ru 10 < ru 1) ∧ (dd = 1 ∨ dd = 2 ∧ 0 < (W.r : Int))) → ∀ (e : Int) (ve : Int32), ve = jI e → 0 ≤ e ∧ e ≤ 2 → (dd = if e ≠ 0 ∧ e ≤ zla ru (W.f 0) (W.f 3) then e else 0) → ∀ ρ : Mm, (∀ c, c ≠ 2 → c ≠ 63 → c ∉ rS → ρ.1 c = σ.1 c) → ρ.2 = σ.2 → Kr ρ 2 W → CI ρ ru → LC ρ ru W.am → ∀ Q' : Po, (∀ v τ, Q (some (.int v)) τ → Q' (some (.int v)) τ) → MW l G (d + 5) mX3_carryOut [.ref 63, .int ve] ρ Q' := by
      intro dd ew hdd e ve eve he hde ρ f1 f2 K hCI hL Q' hQ'
      refine k_carryOut W.t W.h e K hCI.1 hL hB ht.symm hh.symm (by omega) (by omega) he (fun q => ?_) (fun q1 q2 q3 τ r1 r2 r3 r4 => ?_) eve
      · refine hQ' _ _ (fail 2 ?_ (by omega) ρ f1 f2 K hCI)
        rw [ew]
        unfold wDeed
        rw [if_pos]
        by_cases q4 : W.f 4 = 0
        · right
          rw [hde, if_neg (fun z => q ⟨z.1, z.2, q4⟩)]
        · exact Or.inl q4
      · rw [if_pos ⟨q1, q2⟩] at hde
        subst hde
        refine hQ' _ _ (good dd (dd + 1) (wGive ru W dd) ?_ ρ f1 f2 hCI τ r1 r2 r3 r4)
        rw [ew]
        unfold wDeed
        rw [if_neg (fun z => by omega)]
    refine k_look 0 (Or.inl rfl) (by omega) hC hK.2.2.2.2 (fun τ g1 g2 g3 g4 g5 g6 g7 g8 g9 _ => ?_)
    have e2 : τ.1 2 = σ.1 2 := g4.1 2 (by decide)
    have K1 : Kr τ 2 W := hK.fr e2
    have c0 : τ.1 2 0 = jI (W.f 0) := K1.1 0 (by omega)
    have at43 : ∀ ρ : Mm, (∀ c, c ≠ 2 → c ≠ 63 → c ∉ rS → ρ.1 c = σ.1 c) → ρ.2 = σ.2 → Kr ρ 2 W → CI ρ ru → LC ρ ru W.am → ρ.1 63 3 = jI (W.f 0) → Wp l G (d + 6) mX3_attempt 43 [(0, .ref 63), (1, .int x), (2, .int y), (3, .int z), (4, .int u)] [] ρ Q := by
      intro ρ f1 f2 K hCI hL n1
      have hRr := hCI.1
      have k2 : ρ.1 2 2 = jI (W.f 2) := K.1 2 (by omega)
      have k3 : ρ.1 2 3 = jI (W.r : Int) := by rw [hr3]; exact K.1 3 (by omega)
      have fz : ∀ τ : Mm, (∀ c, c ≠ 2 → τ.1 c = ρ.1 c) → τ.1 63 3 = jI (W.f 0) := fun τ q => by rw [q 63 (by decide)]; exact n1
      have give : ∀ ki : Int, (ki = 1 ∨ ki = 2) → k = ki + 1 → ∀ Q' : Po, (∀ v τ, Q (some (.int v)) τ → Q' (some (.int v)) τ) → MW l G (d + 5) mX3_giveNotice [.ref 63, .int (jI ki)] ρ Q' := by
        intro ki hki hk1 Q' hQ'
        have ew : wWhy ru W k a b c = if W.f 4 ≠ 0 then 2 else if (ru 9 ≤ W.f 0 ∧ W.f 0 + ru 10 < ru 1) ∧ (k = 2 ∨ 0 < W.f 3) then -1 else 3 := by
          unfold wWhy
          rw [if_neg (by omega), if_pos (by omega)]
        have hz := hzl ki hki
        refine k_giveNotice W.t W.h ki K hRr hL hB ht.symm hh.symm (by omega) (by omega) hki (fun q => ?_) (fun q1 q2 => ?_) (fun q1 q2 τ r1 r2 r3 => ?_)
        · rw [if_pos q] at ew
          exact hQ' _ _ (fail 2 (by rw [nw (by omega), ew]) (by omega) ρ f1 f2 K hCI)
        · rw [if_neg (by omega), if_neg (fun z => q2 (hz.2 ⟨z.1, by omega⟩))] at ew
          exact hQ' _ _ (fail 3 (by rw [nw (by omega), ew]) (by omega) ρ f1 f2 K hCI)
        · have zz := hz.1 q2
          rw [if_neg (by omega), if_pos ⟨zz.1, by omega⟩] at ew
          refine hQ' _ _ (good (wGiveC ru W ki) (W.f 0) (wGive ru W ki) ?_ ρ f1 f2 hCI τ (fun c q _ => r1 c q) r2 (fz τ r1) r3)
          rw [yw ew]
          unfold wDone
          rw [if_neg (by omega), if_pos (by omega), show k - 1 = ki by omega]
      refine wX3_attempt [] 80 ?_
      refine ⟨⟨fun e => ?_, fun e => ?_, fun e => ?_, fun e => ?_, fun e => ?_, fun e => ?_, fun e => ?_, fun e => ?_, fun e => ?_, fun e => ?_, trivial⟩, fun e => ?_⟩
      · have k0 : k = 0 := by omega
        refine k_passYear W.t W.h 1 K hRr hL hB h6 ht.symm hh.symm (Or.inr rfl) (fun τ r1 r2 r3 r4 => ?_)
        refine good (wPassC ru W) (W.f 0 + 1) (wPass ru W 1) ?_ ρ f1 f2 hCI τ r1 r2 r3 r4
        rw [yw (by unfold wWhy; rw [if_neg (by omega), if_neg (by omega), if_neg (by omega), if_neg (by omega), if_neg (by omega)])]
        unfold wDone
        rw [if_pos (Or.inl k0), k0]
        rfl
      · have k0 : k = 1 := by omega
        refine k_passYear W.t W.h 0 K hRr hL hB h6 ht.symm hh.symm (Or.inl rfl) (fun τ r1 r2 r3 r4 => ?_)
        refine good (wPassC ru W) (W.f 0 + 1) (wPass ru W 0) ?_ ρ f1 f2 hCI τ r1 r2 r3 r4
        rw [yw (by unfold wWhy; rw [if_neg (by omega), if_neg (by omega), if_neg (by omega), if_neg (by omega), if_neg (by omega)])]
        unfold wDone
        rw [if_pos (Or.inr k0), k0]
        rfl
      · exact give 1 (Or.inl rfl) (by omega) _ (fun v τ h => h)
      · exact give 2 (Or.inr rfl) (by omega) _ (fun v τ h => h)
      · have k0 : k = 4 := by omega
        have ew : wWhy ru W k a b c = if W.f 4 = 0 then 2 else -1 := by
          unfold wWhy
          rw [if_neg (by omega), if_neg (by omega), if_pos k0]
        refine k_takeNoticeBack K b4 (fun q => ?_) (fun q τ r1 r2 r3 => ?_)
        · rw [if_pos q] at ew
          exact fail 2 (by rw [nw (by omega), ew]) (by omega) ρ f1 f2 K hCI
        · rw [if_neg q] at ew
          refine good (W.f 5) (W.f 0) ((W.put 4 0).put 5 0) ?_ ρ f1 f2 hCI τ (fun c q _ => r1 c q) r2 (fz τ r1) r3
          rw [yw ew]
          unfold wDone
          rw [if_neg (by omega), if_neg (by omega), if_pos k0]
      · have k0 : k = 5 := by omega
        have ew : wWhy ru W k a b c = wWhy ru W 5 a b 0 := by
          rw [k0]
          unfold wWhy
          simp
        refine k_tellInstalment a b K hRr hB h6 ra rb (fun q => ?_) (fun q τ r1 r2 r3 r4 => ?_)
        · exact fail _ (by rw [nw (by omega), ew]) q ρ f1 f2 K hCI
        · refine good (W.am a.toNat) a (W.putA a.toNat b) ?_ ρ f1 f2 hCI τ r1 r2 r3 r4
          rw [yw (by omega)]
          unfold wDone
          rw [if_neg (by omega), if_neg (by omega), if_neg (by omega), if_pos k0]
      · have k0 : k = 6 := by omega
        have ew : wWhy ru W k a b c = wWhy ru W 6 a b c := by rw [k0]
        refine k_tellRate a b c K hRr hB h6 ra rb rc (fun q => ?_) (fun q τ r1 r2 r3 r4 => ?_)
        · exact fail _ (by rw [nw (by omega), ew]) q ρ f1 f2 K hCI
        · refine good (W.ra a.toNat b.toNat) a (W.putR a.toNat b.toNat c) ?_ ρ f1 f2 hCI τ r1 r2 r3 r4
          rw [yw (by omega)]
          unfold wDone
          rw [if_neg (by omega), if_neg (by omega), if_neg (by omega), if_neg (by omega), if_pos k0]
      · have k0 : k = 7 := by omega
        refine k_reckon 0 0 (W.f 2) W.r 31 0 none (Or.inl ⟨rfl, rfl, rfl, rfl⟩) (Or.inl rfl) (by omega) hCI K.2.2.2.2 bc (by omega) k2 k3 (fun τ m1 m2 m3 m4 m5 m6 m7 m8 _ => ?_)
        rw [K.2.1, K.2.2.1] at m8
        rw [K.2.1] at m5
        have K2 : Kr τ 2 W := K.fr (m4 2 (by decide))
        have hdv : τ.1 34 (nd W.t W.h) = jI (wBest ru W W.t W.h) := (m8 W.t W.h (by omega) (by omega)).2.2.2.1
        have hn := nd_lt2 (t := W.t) (h := W.h) (by omega) (by omega)
        refine k_here W.t W.h K2 ht.symm hh.symm (by omega) ?_
        refine ldI 91 (nd W.t W.h) hdv ?_
        have bb := wBest_in ru W W.t W.h
        have bi : wBest ru W W.t W.h = 0 ∨ (ru 9 ≤ (W.t : Int) ∧ (W.t : Int) + ru 10 < ru 1) ∧ (wBest ru W W.t W.h = 1 ∨ wBest ru W W.t W.h = 2 ∧ 0 < (W.r : Int)) := zbd_in
        refine carry (wBest ru W W.t W.h) ?_ bi (wBest ru W W.t W.h) _ rfl bb ?_ τ (fun c q1 q2 q3 => (m4 c q3).trans (f1 c q1 q2 q3)) (m3.trans f2) K2 m1 m5 _ (fun v τ h => h)
        · rw [yw (by unfold wWhy; rw [if_neg (by omega), if_neg (by omega), if_neg (by omega), if_neg (by omega), if_neg (by omega)])]
          unfold wDone
          rw [if_neg (by omega), if_neg (by omega), if_neg (by omega), if_neg (by omega), if_neg (by omega), if_pos k0]
        · rcases bi with q | ⟨q1, q2⟩
          · rw [q]; rfl
          · rw [if_pos ⟨by omega, (hzl _ (by omega)).2 ⟨by omega, by omega⟩⟩]
      · have k0 : k = 8 := by omega
        refine k_reckon 0 0 (W.f 2) W.r 31 0 none (Or.inl ⟨rfl, rfl, rfl, rfl⟩) (Or.inl rfl) (by omega) hCI K.2.2.2.2 bc (by omega) k2 k3 (fun τ m1 m2 m3 m4 m5 m6 m7 m8 _ => ?_)
        rw [K.2.1, K.2.2.1] at m8
        have K2 : Kr τ 2 W := K.fr (m4 2 (by decide))
        have eo : wOut ru W k a b c = (if wN ru W = 0 then 2 else -1, ((wN ru W : Nat) : Int), ((wN ru W : Nat) : Int), wAdopt ru W) := by
          rw [yw (by unfold wWhy; rw [if_neg (by omega), if_neg (by omega), if_neg (by omega), if_neg (by omega), if_neg (by omega)])]
          unfold wDone
          rw [if_neg (by omega), if_neg (by omega), if_neg (by omega), if_neg (by omega), if_neg (by omega), if_neg (by omega), if_pos k0]
        refine k_takeDeeds W.t W.h K2 m1.1 hB ht.symm hh.symm (by omega) (fun t h q1 q2 => (m8 t h q1 q2).2.2.2.1) (fun τ2 r1 r2 r3 r4 => ?_)
        rw [eo] at hq
        have := hq τ2 (fun c q1 q2 q3 => (r1 c q1 q2).trans ((m4 c q3).trans (f1 c q1 q2 q3))) (r2.trans (m3.trans f2)) (m1.fr2 r1) r4 (fun _ => r3)
        by_cases q : wN ru W = 0
        · rw [if_pos q]
          rw [if_pos q] at this
          exact this
        · rw [if_neg q]
          rw [if_neg q] at this
          exact this
      · have k0 : k = 9 := by omega
        have hdc := K.2.2.2.2.DC hr W.t W.h (by omega) (by omega)
        rw [K.2.2.2.1] at hdc
        refine ldI 115 0 (show ρ.1 2 0 = jI (W.t : Int) by rw [ht]; exact K.1 0 (by omega)) ?_
        refine ldI 115 1 (show ρ.1 2 1 = jI (W.h : Int) by rw [hh]; exact K.1 1 (by omega)) ?_
        refine k_deedOf W.t W.h (by decide) (by omega) hdc.1 ?_
        refine carry (wPol ru W W.t W.h) ?_ (zpd_in (t3 _ _)) (W.de W.t W.h) _ rfl hdc.2 ?_ ρ f1 f2 K hCI hL _ (fun v τ h => h)
        · rw [yw (by unfold wWhy; rw [if_neg (by omega), if_neg (by omega), if_neg (by omega), if_neg (by omega), if_neg (by omega)])]
          unfold wDone
          rw [if_neg (by omega), if_neg (by omega), if_neg (by omega), if_neg (by omega), if_neg (by omega), if_neg (by omega), if_neg (by omega)]
        · have h12 := hdc.2
          unfold wPol zpd
          by_cases q0 : W.de W.t W.h = 0
          · rw [if_pos (Or.inl q0), if_neg (fun z => z.1 q0)]; exact q0
          · have hz := hzl (W.de W.t W.h) (by omega)
            by_cases q1 : W.de W.t W.h ≤ zla ru (W.f 0) (W.f 3)
            · have := hz.1 q1
              rw [if_pos (Or.inr (by omega)), if_pos ⟨q0, q1⟩]
            · rw [if_neg (c := W.de W.t W.h ≠ 0 ∧ _) (fun z => q1 z.2), if_neg]
              rintro (z | z)
              · exact q0 z
              · exact q1 (hz.2 (by omega))
      · exfalso
        have h' : x.toInt < 0 ∨ 0 + 10 ≤ x.toInt := e
        omega
    refine ldI 115 0 c0 ?_
    refine at43 (uI τ 63 3 (jI (W.f 0))) (fun c q1 q2 q3 => ?_) g5 (K1.fr (by rw [uI_n (by decide)])) ?_ ?_ (uI_at _ _ _ _)
    · rw [uI_n q2, g4.1 c]
      intro q
      apply q3
      unfold rS
      simp at q ⊢
      omega
    · refine CI.fr2 ⟨g1, Or.inl g3, fun _ => g2⟩ (fun c _ q => by rw [uI_n q])
    · have := g2.2.1
      rw [g6, hK.2.1] at this
      exact this.fr (by rw [uI_n (by decide)]) (by rw [uI_n (by decide)]) (by rw [uI_n (by decide)])
  · have e : wOut ru W k a b c = (0, 0, 0, W) := by
      have e2 : wWhy ru W k a b c = 0 := by unfold wWhy; rw [if_pos (by omega)]
      unfold wOut
      rw [e2]
      rfl
    rw [e] at hq
    exact hq σ (fun _ _ _ _ => rfl) rfl hC hK (fun q => absurd (show (0 : Int) = -1 from q) (by decide))
end KAt
