-- perform, count of the reference; scripts of the class
theorem sOut_in (ru : Nat → Int) (S : Sc) (s i : Nat) (W : Wk) : -1 ≤ (sOut ru S s i W).1 ∧ (sOut ru S s i W).1 ≤ 3 ∧ ((sOut ru S s i W).1 ≠ -1 → (sOut ru S s i W).2.2.2 = W) := wOut_in _ _ _ _ _ _
theorem sAct_no {ru : Nat → Int} {S : Sc} {s i : Nat} {H : Hs} (h : (sOut ru S s i H.W).1 ≠ -1) : sAct ru S s i H = H := by
  unfold sAct hAct
  exact if_neg h
theorem perS_B {ru : Nat → Int} {S : Sc} (hr : RB ru) (hS : SB S) (s : Nat) (hs : s < S.c) : ∀ n i H, i + n ≤ S.sz s → WB ru H.W → WB ru (perS ru S s n i H).2.W
  | 0, i, H, _, hB => hB
  | n + 1, i, H, hn, hB => by
    unfold perS
    split
    · exact perS_B hr hS s hs n (i + 1) _ (by omega) (hAct_B hr hB _ _ _ _ (hS.2.2.2 s i hs (by omega)))
    · exact hB
section MPe
variable {l : Launch} {G : GT} {d : Nat} {σ : Mm} {Q : Po} {ru : Nat → Int} {W : Wk} {H : Hs} {S : Sc}
theorem c_perform {x : Int32} (s : Int) (hI : σ.1 98 17 = 1) (hE : ME σ ru) (hH : HM σ ru H) (hs : σ.1 98 27 = 0) (hB : WB ru H.W) (hS : SM σ S) (rs : R31 s)
    (hq1 : ¬ (0 ≤ s ∧ s < (S.c : Int)) → Q (some (.int (-1))) (uI σ 98 0 0))
    (hq : 0 ≤ s ∧ s < (S.c : Int) → ∀ τ, FA σ τ → HM τ ru (perS ru S s.toNat (S.sz s.toNat) 0 H).2 → Q (some (.int (jI ((perS ru S s.toNat (S.sz s.toNat) 0 H).1 : Int)))) τ) (ex : x = jI s := by first | rfl | assumption | (simp only [jlit, jneg, jadd, jsub, jmul]; done) | (simp only [jlit, jneg, jadd, jsub, jmul]; congr 1 <;> omega) | (congr 1 <;> omega)) : MW l G (d + 13) mX12_perform [.ref 98, .int x] σ Q := by
  have hr := hE.1
  have f0 : FA σ (uI σ 98 0 0) := FA.th
  have sm : ∀ τ, FA σ τ → SM τ S := fun τ f => hS.fr (f.2.2 16 (by decide)) (f.1 107 (by decide)) (f.1 106 (by decide))
  have hc := hS.1.1
  refine vX12_perform [(26, [0, 1, 2, 3])] 60 ?_
  refine c_isScript s (sm _ f0) rs ?_
  refine brz _ (fun q => hq1 q) (fun q1 => ?_)
  refine And.intro (fun q => absurd ((f0.2.2 17 (by decide)).trans hI |>.symm.trans q) (by decide)) (fun _ => ?_)
  have hq := hq q1
  obtain ⟨n0, rfl⟩ : ∃ n : Nat, s = (n : Int) := ⟨s.toNat, by omega⟩
  rw [show (n0 : Int).toNat = n0 from Int.toNat_natCast n0] at hq
  have hz := hS.1.2.1 n0 (by omega)
  have key : ∀ (m i : Nat) (τ : Mm) (K : Hs) (u : Int32), i + m = S.sz n0 → u = jI (i : Int) → FA σ τ → HM τ ru K → WB ru K.W → perS ru S n0 (S.sz n0) 0 H = perS ru S n0 m i K → Wp l G (d + 13) mX12_perform 26 [(0, .ref 98), (1, .int x), (2, .int u), (3, .int 1)] [] τ Q := by
    intro m
    induction m with
    | zero =>
      intro i τ K u hm hu F hK hBK he
      have he : perS ru S n0 (S.sz n0) 0 H = (i, K) := he
      rw [he] at hq
      refine wX12_perform [] 60 ?_
      refine And.intro (fun q => absurd q (by decide)) (fun _ => ?_)
      refine ldI 5 n0 ((sm τ F).2.2.1 n0 (by omega)) ?_ (hi := ex)
      refine brle (S.sz n0 : Int) (i : Int) (fun _ => ?_) (fun z => by omega) (hx := rfl) (hy := hu)
      have := hq τ F hK
      rw [← hu] at this
      exact this
    | succ m ih =>
      intro i τ K u hm hu F hK hBK he
      have St := sm τ F
      have en := fun w hw => St.2.2.2 n0 i w (by omega) (by omega) hw
      have br := fun w hw => hS.1.2.2.1 n0 i w (by omega) (by omega) hw
      refine wX12_perform [(26, [0, 1, 2, 3])] 60 ?_
      refine And.intro (fun q => absurd q (by decide)) (fun _ => ?_)
      refine ldI 5 n0 (St.2.2.1 n0 (by omega)) ?_ (hi := ex)
      refine brle (S.sz n0 : Int) (i : Int) (fun z => by omega) (fun _ => ?_) (hx := rfl) (hy := hu)
      refine ldI 320 (64 * n0 + 4 * i + 0) (en 0 (by omega)) ?_ (hi := by rw [ex, hu]; first | rfl | assumption | (simp only [jlit, jneg, jadd, jsub, jmul]; done) | (simp only [jlit, jneg, jadd, jsub, jmul]; congr 1 <;> omega) | (congr 1 <;> omega))
      refine ldI 320 (64 * n0 + 4 * i + 1) (en 1 (by omega)) ?_ (hi := by rw [ex, hu]; first | rfl | assumption | (simp only [jlit, jneg, jadd, jsub, jmul]; done) | (simp only [jlit, jneg, jadd, jsub, jmul]; congr 1 <;> omega) | (congr 1 <;> omega))
      refine ldI 320 (64 * n0 + 4 * i + 2) (en 2 (by omega)) ?_ (hi := by rw [ex, hu]; first | rfl | assumption | (simp only [jlit, jneg, jadd, jsub, jmul]; done) | (simp only [jlit, jneg, jadd, jsub, jmul]; congr 1 <;> omega) | (congr 1 <;> omega))
      refine ldI 320 (64 * n0 + 4 * i + 3) (en 3 (by omega)) ?_ (hi := by rw [ex, hu]; first | rfl | assumption | (simp only [jlit, jneg, jadd, jsub, jmul]; done) | (simp only [jlit, jneg, jadd, jsub, jmul]; congr 1 <;> omega) | (congr 1 <;> omega))
      refine c_tries (S.st n0 i 0) (S.st n0 i 1) (S.st n0 i 2) (S.st n0 i 3) (by rw [F.2.2 17 (by decide)]; exact hI) (hE.fr (F.1 101 (by decide))) hK (by rw [F.2.2 27 (by decide)]; exact hs) hBK (hS.1.2.2.2 n0 i (by omega) (by omega)) (br 1 (by omega)) (br 2 (by omega)) (br 3 (by omega)) (fun ρ p1 p2 p3 => ?_) rfl rfl rfl rfl
      have ho := sOut_in ru S n0 i K.W
      have es : perS ru S n0 (m + 1) i K = if (sOut ru S n0 i K.W).1 = -1 then perS ru S n0 m (i + 1) (sAct ru S n0 i K) else (i, K) := rfl
      refine breq (sOut ru S n0 i K.W).1 (-1) (fun z => ?_) (fun z => ?_) (hx := rfl) (hy := rfl)
      · refine And.intro (fun q => absurd q (by decide)) (fun _ => ?_)
        refine ih (i + 1) ρ (sAct ru S n0 i K) _ (by omega) (by rw [hu]; first | rfl | assumption | (simp only [jlit, jneg, jadd, jsub, jmul]; done) | (simp only [jlit, jneg, jadd, jsub, jmul]; congr 1 <;> omega) | (congr 1 <;> omega)) (F.tr p1.a) p2 (hAct_B hr hBK _ _ _ _ (hS.1.2.2.2 n0 i (by omega) (by omega))) ?_
        rw [he, es, if_pos z]
      · refine And.intro (fun _ => ?_) (fun q => absurd rfl q)
        refine wX12_perform [] 60 ?_
        refine And.intro (fun _ => ?_) (fun q => absurd rfl q)
        have p2 : HM ρ ru (sAct ru S n0 i K) := p2
        rw [sAct_no z] at p2
        rw [he, es, if_neg z] at hq
        have := hq ρ (F.tr p1.a) p2
        rw [← hu] at this
        exact this
  exact key (S.sz n0) 0 _ H _ (by omega) rfl f0 hH.th hB rfl
end MPe
section KSc
variable {l : Launch} {G : GT} {d : Nat} {σ : Mm} {Q : Po} {ru : Nat → Int} {W : Wk} {H : Hs} {S : Sc}
theorem k_has {x : Int32} (s : Int) (hS : SK σ S) (rs : R31 s) (hq : Q (some (.int (if 0 ≤ s ∧ s < (S.c : Int) then 1 else 0))) σ) (ex : x = jI s := by first | rfl | assumption | (simp only [jlit, jneg, jadd, jsub, jmul]; done) | (simp only [jlit, jneg, jadd, jsub, jmul]; congr 1 <;> omega) | (congr 1 <;> omega)) : MW l G d mX6_has [.ref 12, .int x] σ Q := by
  have hc := hS.1.1
  have e2 := hS.2.1
  refine vX6_has [] 40 ?_
  refine brlt s 0 (fun q => ?_) (fun q1 => ?_)
  · rw [if_neg (by omega)] at hq
    exact ⟨Or.inl rfl, hq⟩
  · refine brle (S.c : Int) s (fun q => ?_) (fun q2 => ?_)
    · rw [if_neg (by omega)] at hq
      exact ⟨Or.inl rfl, hq⟩
    · rw [if_pos (by omega)] at hq
      exact ⟨Or.inr rfl, hq⟩
theorem k_sizeOf {x : Int32} (s : Nat) (hS : SK σ S) (hs : s < S.c) (hq : Q (some (.int (jI (S.sz s : Int)))) σ) (ex : x = jI (s : Int) := by first | rfl | assumption | (simp only [jlit, jneg, jadd, jsub, jmul]; done) | (simp only [jlit, jneg, jadd, jsub, jmul]; congr 1 <;> omega) | (congr 1 <;> omega)) : MW l G (d + 1) mX6_sizeOf [.ref 12, .int x] σ Q := by
  have hc := hS.1.1
  refine vX6_sizeOf [] 40 ?_
  refine k_has (s : Int) hS (by omega) ?_
  refine brz _ (fun q => by omega) (fun _ => ?_)
  exact ldI 4 s (hS.2.2.1 s hs) hq
theorem k_number {x y z : Int32} (s i w : Nat) (hS : SK σ S) (hs : s < S.c) (hi : i < S.sz s) (hw : w < 4) (hq : Q (some (.int (jI (S.st s i w)))) σ) (ex : x = jI (s : Int) := by first | rfl | assumption | (simp only [jlit, jneg, jadd, jsub, jmul]; done) | (simp only [jlit, jneg, jadd, jsub, jmul]; congr 1 <;> omega) | (congr 1 <;> omega)) (ey : y = jI (i : Int) := by first | rfl | assumption | (simp only [jlit, jneg, jadd, jsub, jmul]; done) | (simp only [jlit, jneg, jadd, jsub, jmul]; congr 1 <;> omega) | (congr 1 <;> omega)) (ez : z = jI (w : Int) := by first | rfl | assumption | (simp only [jlit, jneg, jadd, jsub, jmul]; done) | (simp only [jlit, jneg, jadd, jsub, jmul]; congr 1 <;> omega) | (congr 1 <;> omega)) : MW l G (d + 2) mX6_number [.ref 12, .int x, .int y, .int z] σ Q := by
  have hc := hS.1.1
  have hz := hS.1.2.1 s hs
  refine vX6_number [] 60 ?_
  refine brlt (i : Int) 0 (fun q => by omega) (fun _ => ?_)
  refine k_sizeOf s hS hs ?_
  refine brle (S.sz s : Int) (i : Int) (fun q => by omega) (fun _ => ?_)
  refine brlt (w : Int) 0 (fun q => by omega) (fun _ => ?_)
  refine brle 4 (w : Int) (fun q => by omega) (fun _ => ?_)
  refine And.intro (fun q => absurd q (by decide)) (fun _ => ?_)
  exact ldI 256 (64 * s + 4 * i + w) (hS.2.2.2 s i w hs hi hw) hq (hi := by rw [ex, ey, ez]; simp only [jlit, jadd, jmul]; congr 1; omega)
theorem k_step {x y z : Int32} (s i w : Int) (hS : SK σ S) (rs : R31 s) (ri : R31 i) (rw' : R31 w) (hq : Q (some (.int (jI (aStep S s i w)))) σ) (ex : x = jI s := by first | rfl | assumption | (simp only [jlit, jneg, jadd, jsub, jmul]; done) | (simp only [jlit, jneg, jadd, jsub, jmul]; congr 1 <;> omega) | (congr 1 <;> omega)) (ey : y = jI i := by first | rfl | assumption | (simp only [jlit, jneg, jadd, jsub, jmul]; done) | (simp only [jlit, jneg, jadd, jsub, jmul]; congr 1 <;> omega) | (congr 1 <;> omega)) (ez : z = jI w := by first | rfl | assumption | (simp only [jlit, jneg, jadd, jsub, jmul]; done) | (simp only [jlit, jneg, jadd, jsub, jmul]; congr 1 <;> omega) | (congr 1 <;> omega)) : MW l G (d + 3) mX11_step [.ref 0, .int x, .int y, .int z] σ Q := by
  have hc := hS.1.1
  unfold aStep at hq
  have no : ¬ ((0 ≤ s ∧ s < (S.c : Int)) ∧ (0 ≤ i ∧ i < (S.sz s.toNat : Int)) ∧ (0 ≤ w ∧ w ≤ 3)) → Q (some (.int (-1000000))) σ := fun q => by
    rw [if_neg q] at hq
    exact hq
  refine vX11_step [] 60 ?_
  refine k_has s hS rs ?_
  refine brz _ (fun q => no (fun z => q z.1)) (fun q1 => ?_)
  have hz := hS.1.2.1 s.toNat (by omega)
  refine brlt i 0 (fun q => no (by omega)) (fun q2 => ?_)
  refine k_sizeOf s.toNat hS (by omega) ?_ (by rw [ex]; congr 1; omega)
  refine brle (S.sz s.toNat : Int) i (fun q => no (by omega)) (fun q3 => ?_)
  refine brlt w 0 (fun q => no (by omega)) (fun q4 => ?_)
  refine brle w 3 (fun q5 => ?_) (fun q => no (by omega))
  rw [if_pos (by omega)] at hq
  exact k_number s.toNat i.toNat w.toNat hS (by omega) (by omega) (by omega) hq (by rw [ex]; congr 1; omega) (by rw [ey]; congr 1; omega) (by rw [ez]; congr 1; omega)
theorem k_perform {x : Int32} (s : Int) (hH : HK σ ru H) (hE : H.E < 900000) (hS : SK σ S) (rs : R31 s)
    (hq1 : ¬ (0 ≤ s ∧ s < (S.c : Int)) → Q (some (.int (-1))) σ)
    (hq : 0 ≤ s ∧ s < (S.c : Int) → ∀ τ : Mm, (∀ c, c ∉ yS → τ.1 c = σ.1 c) → τ.2 = σ.2 → (∀ k, 7 ≤ k → τ.1 64 k = σ.1 64 k) → (∀ j, j < 4 → τ.1 4 j = σ.1 4 j) → HK τ ru (perS ru S s.toNat (S.sz s.toNat) 0 H).2 → Q (some (.int (jI ((perS ru S s.toNat (S.sz s.toNat) 0 H).1 : Int)))) τ) (ex : x = jI s := by first | rfl | assumption | (simp only [jlit, jneg, jadd, jsub, jmul]; done) | (simp only [jlit, jneg, jadd, jsub, jmul]; congr 1 <;> omega) | (congr 1 <;> omega)) : MW l G (d + 8) mX11_perform [.ref 0, .int x] σ Q := by
  have hr := hH.2.1.1.1
  have hr' := hr
  unfold RB at hr'
  have hc := hS.1.1
  refine vX11_perform [(31, [0, 1, 2, 3])] 60 ?_
  refine k_has s hS rs ?_
  refine brz _ (fun q => hq1 q) (fun q1 => ?_)
  refine k_noLoan (ru 1) (hH.2.1.1.2 1 (by omega)) (by omega) ?_
  rw [if_neg (by omega)]
  refine And.intro (fun _ => ?_) (fun q => absurd rfl q)
  have hq := hq q1
  obtain ⟨n0, rfl⟩ : ∃ n : Nat, s = (n : Int) := ⟨s.toNat, by omega⟩
  rw [show (n0 : Int).toNat = n0 from Int.toNat_natCast n0] at hq
  have hz := hS.1.2.1 n0 (by omega)
  refine k_sizeOf n0 hS (by omega) ?_ ex
  have key : ∀ (m i : Nat) (τ : Mm) (K : Hs) (u : Int32), i + m = S.sz n0 → u = jI (i : Int) → (∀ c, c ∉ yS → τ.1 c = σ.1 c) → τ.2 = σ.2 → (∀ k, 7 ≤ k → τ.1 64 k = σ.1 64 k) → (∀ j, j < 4 → τ.1 4 j = σ.1 4 j) → HK τ ru K → K.E ≤ H.E + i → perS ru S n0 (S.sz n0) 0 H = perS ru S n0 m i K → Wp l G (d + 8) mX11_perform 31 [(0, .ref 0), (1, .int x), (2, .int (jI (S.sz n0 : Int))), (3, .int u)] [] τ Q := by
    intro m
    induction m with
    | zero =>
      intro i τ K u hm hu f1 f2 f3 f4 hK hKE he
      have he : perS ru S n0 (S.sz n0) 0 H = (i, K) := he
      rw [he] at hq
      refine wX11_perform [] 60 ?_
      refine brle (S.sz n0 : Int) (i : Int) (fun _ => ?_) (fun z => by omega) (hx := rfl) (hy := hu)
      have := hq τ f1 f2 f3 f4 hK
      rw [show S.sz n0 = i by omega]
      exact this
    | succ m ih =>
      intro i τ K u hm hu f1 f2 f3 f4 hK hKE he
      have St : SK τ S := hS.fr (f1 12 (by decide)) (f1 14 (by decide)) (f1 13 (by decide))
      have br := fun w hw => hS.1.2.2.1 n0 i w (by omega) (by omega) hw
      refine wX11_perform [(31, [0, 1, 2, 3])] 60 ?_
      refine brle (S.sz n0 : Int) (i : Int) (fun z => by omega) (fun _ => ?_) (hx := rfl) (hy := hu)
      refine k_number n0 i 0 St (by omega) (by omega) (by omega) ?_ ex hu
      refine k_number n0 i 1 St (by omega) (by omega) (by omega) ?_ ex hu
      refine k_number n0 i 2 St (by omega) (by omega) (by omega) ?_ ex hu
      refine k_number n0 i 3 St (by omega) (by omega) (by omega) ?_ ex hu
      refine k_act (S.st n0 i 0) (S.st n0 i 1) (S.st n0 i 2) (S.st n0 i 3) 0 (Or.inl rfl) hK.1 hK.2.1 hK.2.2.2 hK.2.2.1 (by omega) (hS.1.2.2.2 n0 i (by omega) (by omega)) (br 1 (by omega)) (br 2 (by omega)) (br 3 (by omega)) (fun ρ m1 m2 m3 m4 m5 m6 m7 => ?_) rfl rfl rfl rfl
      have ho := sOut_in ru S n0 i K.W
      have es : perS ru S n0 (m + 1) i K = if (sOut ru S n0 i K.W).1 = -1 then perS ru S n0 m (i + 1) (sAct ru S n0 i K) else (i, K) := rfl
      have hB2 : WB ru (sAct ru S n0 i K).W := hAct_B hr hK.2.2.2 _ _ _ _ (hS.1.2.2.2 n0 i (by omega) (by omega))
      have hE2 : (sAct ru S n0 i K).E ≤ K.E + 1 := hAct_E ru K _ _ _ _
      have fr1 : ∀ c, c ∉ yS → ρ.1 c = σ.1 c := fun c q => by
        have q' := q
        unfold yS at q'
        rw [List.mem_cons, not_or] at q'
        rw [m1 c q'.2]
        exact f1 c q
      have fr4 : ∀ j, j < 4 → ρ.1 4 j = σ.1 4 j := fun j hj => by
        rw [m7 j]
        unfold sUp
        rw [if_neg (fun z => absurd (show (0 : Int) = 1 from z.1) (by decide))]
        exact f4 j hj
      have HK2 : HK ρ ru (sAct ru S n0 i K) := ⟨m4, m5, m6, hB2⟩
      by_cases z : (sOut ru S n0 i K.W).1 = -1
      · have hcm := wOut_came hr hK.2.2.2 (S.st n0 i 0) (S.st n0 i 1) (S.st n0 i 2) (S.st n0 i 3) z
        have ek : kAns ru K.W (S.st n0 i 0) (S.st n0 i 1) (S.st n0 i 2) (S.st n0 i 3) = (sOut ru S n0 i K.W).2.1 := by
          unfold kAns
          exact if_pos z
        refine brle 0 (kAns ru K.W (S.st n0 i 0) (S.st n0 i 1) (S.st n0 i 2) (S.st n0 i 3)) (fun _ => ?_) (fun q => ?_) (hx := rfl) (hy := rfl) (rb := by rw [ek]; unfold sOut; omega)
        · refine ih (i + 1) ρ (sAct ru S n0 i K) _ (by omega) (by rw [hu]; first | rfl | assumption | (simp only [jlit, jneg, jadd, jsub, jmul]; done) | (simp only [jlit, jneg, jadd, jsub, jmul]; congr 1 <;> omega) | (congr 1 <;> omega)) fr1 (m2.trans f2) (fun k hk => (m3 k hk).trans (f3 k hk)) fr4 HK2 (by omega) ?_
          rw [he, es, if_pos z]
        · rw [ek] at q
          unfold sOut at q
          omega
      · have ek : kAns ru K.W (S.st n0 i 0) (S.st n0 i 1) (S.st n0 i 2) (S.st n0 i 3) = -1 := by
          unfold kAns
          exact if_neg z
        rw [ek]
        refine brle 0 (-1) (fun q => by omega) (fun _ => ?_) (hx := rfl) (hy := rfl)
        rw [sAct_no z] at HK2
        rw [he, es, if_neg z] at hq
        have := hq ρ fr1 (m2.trans f2) (fun k hk => (m3 k hk).trans (f3 k hk)) fr4 HK2
        rw [← hu] at this
        exact this
  exact key (S.sz n0) 0 σ H _ (by omega) rfl (fun _ _ => rfl) rfl (fun _ _ => rfl) (fun _ _ => rfl) hH (by omega) rfl
end KSc
