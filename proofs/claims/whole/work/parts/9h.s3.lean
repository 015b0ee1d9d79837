-- run of the class; count of both
section KRu
variable {l : Launch} {G : GT} {d : Nat} {σ : Mm} {Q : Po} {ru : Nat → Int} {W : Wk} {H : Hs} {S : Sc}
theorem k_triesS {x y : Int32} (s i : Nat) (hK : KQ σ ru W) (hS : SK σ S) (hs : s < S.c) (hi : i < S.sz s)
    (hq : ∀ τ : Mm, (∀ c, c ≠ 2 → c ≠ 63 → c ∉ rS → τ.1 c = σ.1 c) → τ.2 = σ.2 → CI τ ru → Kr τ 2 (sOut ru S s i W).2.2.2 → Q (some (.int (if (sOut ru S s i W).1 = -1 then 1 else 0))) τ) (ex : x = jI (s : Int) := by first | rfl | assumption | (simp only [jlit, jneg, jadd, jsub, jmul]; done) | (simp only [jlit, jneg, jadd, jsub, jmul]; congr 1 <;> omega) | (congr 1 <;> omega)) (ey : y = jI (i : Int) := by first | rfl | assumption | (simp only [jlit, jneg, jadd, jsub, jmul]; done) | (simp only [jlit, jneg, jadd, jsub, jmul]; congr 1 <;> omega) | (congr 1 <;> omega)) : MW l G (d + 7) mX11_tries [.ref 0, .int x, .int y] σ Q := by
  have hr := hK.2.1.1.1
  have br := fun w hw => hS.1.2.2.1 s i w hs hi hw
  have ho := sOut_in ru S s i W
  refine vX11_tries [] 60 ?_
  refine k_number s i 0 hS hs hi (by omega) ?_ ex ey
  refine k_number s i 1 hS hs hi (by omega) ?_ ex ey
  refine k_number s i 2 hS hs hi (by omega) ?_ ex ey
  refine k_number s i 3 hS hs hi (by omega) ?_ ex ey
  refine k_attempt (S.st s i 0) (S.st s i 1) (S.st s i 2) (S.st s i 3) hK.1 hK.2.1 hK.2.2 (hS.1.2.2.2 s i hs hi) (br 1 (by omega)) (br 2 (by omega)) (br 3 (by omega)) (fun τ m1 m2 m3 m4 m5 => ?_) rfl rfl rfl rfl
  have hq := hq τ m1 m2 m3 m4
  by_cases z : (sOut ru S s i W).1 = -1
  · have hcm := wOut_came hr hK.2.2 (S.st s i 0) (S.st s i 1) (S.st s i 2) (S.st s i 3) z
    rw [if_pos z] at hq
    have e : (if (wOut ru W (S.st s i 0) (S.st s i 1) (S.st s i 2) (S.st s i 3)).1 = -1 then (wOut ru W (S.st s i 0) (S.st s i 1) (S.st s i 2) (S.st s i 3)).2.1 else -1 - (wOut ru W (S.st s i 0) (S.st s i 1) (S.st s i 2) (S.st s i 3)).1) = (wOut ru W (S.st s i 0) (S.st s i 1) (S.st s i 2) (S.st s i 3)).2.1 := if_pos z
    rw [e]
    refine brlt _ 0 (fun q => by omega) (fun _ => ?_) (hx := rfl) (hy := rfl)
    exact ⟨Or.inr rfl, hq⟩
  · rw [if_neg z] at hq
    have e : (if (wOut ru W (S.st s i 0) (S.st s i 1) (S.st s i 2) (S.st s i 3)).1 = -1 then (wOut ru W (S.st s i 0) (S.st s i 1) (S.st s i 2) (S.st s i 3)).2.1 else -1 - (wOut ru W (S.st s i 0) (S.st s i 1) (S.st s i 2) (S.st s i 3)).1) = -1 - (sOut ru S s i W).1 := if_neg z
    rw [e]
    refine brlt (-1 - (sOut ru S s i W).1) 0 (fun _ => ?_) (fun q => by omega) (hx := rfl) (hy := rfl)
    exact ⟨Or.inl rfl, hq⟩
def uS : List Nat := 2 :: 63 :: kA
theorem k_run {x y : Int32} (s w : Int) (hK : KQ σ ru W) (hS : SK σ S) (rs : R31 s) (rw' : R31 w) (hq : ∀ τ : Mm, (∀ c, c ∉ uS → τ.1 c = σ.1 c) → τ.2 = σ.2 → CI τ ru → Kr τ 2 W → Q (some (.int (jI (aRun ru W S s w)))) τ) (ex : x = jI s := by first | rfl | assumption | (simp only [jlit, jneg, jadd, jsub, jmul]; done) | (simp only [jlit, jneg, jadd, jsub, jmul]; congr 1 <;> omega) | (congr 1 <;> omega)) (ey : y = jI w := by first | rfl | assumption | (simp only [jlit, jneg, jadd, jsub, jmul]; done) | (simp only [jlit, jneg, jadd, jsub, jmul]; congr 1 <;> omega) | (congr 1 <;> omega)) : MW l G (d + 8) mX11_run [.ref 0, .int x, .int y] σ Q := by
  have h12 := hK.ru
  have hr := hK.2.1.1.1
  have hc := hS.1.1
  unfold aRun at hq
  have no : ¬ ((0 ≤ s ∧ s < (S.c : Int)) ∧ (0 ≤ w ∧ w ≤ 1)) → Q (some (.int (-1000000))) σ := fun q => by
    rw [if_neg q] at hq
    exact hq σ (fun _ _ => rfl) rfl hK.2.1 hK.1
  have nm : ∀ c, c ∉ uS → c ≠ 2 ∧ c ≠ 63 ∧ c ∉ rS ∧ c ≠ 3 := fun c q => by
    unfold uS at q
    simp only [List.mem_cons, not_or] at q
    refine ⟨q.1, q.2.1, rS_kA q.2.2, fun z => q.2.2 (by rw [z]; decide)⟩
  refine vX11_run [(58, [0, 1, 2, 3, 4])] 60 ?_
  refine k_has s hS rs ?_
  refine brz _ (fun q => no (fun z => q z.1)) (fun q1 => ?_)
  refine k_loan hK ?_
  refine And.intro (fun _ => ?_) (fun q => absurd rfl q)
  refine brlt w 0 (fun q => no (by omega)) (fun q2 => ?_)
  refine brle w 1 (fun q3 => ?_) (fun q => no (by omega))
  rw [if_pos ⟨q1, q2, q3⟩] at hq
  obtain ⟨n0, rfl⟩ : ∃ n : Nat, s = (n : Int) := ⟨s.toNat, by omega⟩
  rw [show (n0 : Int).toNat = n0 from Int.toNat_natCast n0] at hq
  have hz := hS.1.2.1 n0 (by omega)
  refine cpI (σ := σ) 0 0 115 (by decide) (by decide) (by decide) (by decide) (by decide) (by decide) (by decide) (by decide) (h := fun τ1 eτ g1 g2 g3 => ?_)
  subst eτ
  have S1 := hS.fr (g2 12 (by decide)) (g2 14 (by decide)) (g2 13 (by decide))
  refine k_sizeOf n0 S1 (by omega) ?_ ex
  obtain ⟨τ1, eτ⟩ : ∃ τ1, τ1 = uR σ 3 (va_cpy (σ.1 2) (σ.1 3) (0 : Int32).toNatClampNeg (0 : Int32).toNatClampNeg (115 : Int32).toNatClampNeg) := ⟨_, rfl⟩
  have C1 : CI τ1 ru := by
    rw [eτ]
    exact hK.2.1.frS (g2 1 (by decide)) (fun c hc => g2 c (by rintro rfl; exact absurd hc (by decide)))
  have K1 : Kr τ1 2 W := by
    rw [eτ]
    exact hK.1.fr (g2 2 (by decide))
  have T1 : ∀ j, j < 115 → τ1.1 3 j = σ.1 2 j := fun j hj => by
    rw [eτ, g3, if_pos (by omega), show 0 + (j - 0) = j by omega]
  have N1 : ∀ c, c ≠ 3 → τ1.1 c = σ.1 c := by rw [eτ]; exact g2
  have L1 : τ1.2 = σ.2 := by rw [eτ]; rfl
  rw [← eτ]
  have fin : ∀ (τ : Mm) (V : Wk) (i : Nat) (u : Int32), i ≤ S.sz n0 → u = jI (i : Int) → (∀ c, c ≠ 2 → c ≠ 63 → c ∉ rS → τ.1 c = τ1.1 c) → τ.2 = σ.2 → CI τ ru → Kr τ 2 V → runS ru S n0 (S.sz n0) 0 W = (i, V) → Wp l G (d + 8) mX11_run 80 [(0, .ref 0), (1, .int x), (2, .int y), (3, .int (jI (S.sz n0 : Int))), (4, .int u)] [] τ Q := by
    intro τ V i u hi hu f1 f2 hC hV he
    refine wX11_run [] 60 ?_
    refine ldI 115 6 (show _ = jI (V.f 7) from hV.1 6 (by omega)) ?_
    refine cpI (σ := τ) 0 0 115 (by decide) (by decide) (by decide) (by decide) (by decide) (by decide) (by decide) (by decide) (h := fun ρ eρ p1 p2 p3 => ?_)
    subst eρ
    have hq := hq _ (fun c q => by
      obtain ⟨a1, a2, a3, a4⟩ := nm c q
      rw [p2 c a1, f1 c a1 a2 a3, N1 c a4]) (p1.trans f2) (hC.frS (p2 1 (by decide)) (fun c hc => p2 c (by rintro rfl; exact absurd hc (by decide)))) (Kg.kr (hK.1.kg.fr (fun k hk => by rw [p3, if_pos (by omega), show 0 + (k - 0) = k by omega, f1 3 (by decide) (by decide) (by decide), T1 k hk])))
    rw [he] at hq
    refine breq w 1 (fun z => ?_) (fun z => ?_) (hx := ey) (hy := rfl)
    · rw [if_pos z] at hq
      exact hq
    · rw [if_neg z] at hq
      refine breq (i : Int) (S.sz n0 : Int) (fun z => ?_) (fun z => ?_) (hx := hu) (hy := rfl)
      · rw [if_pos (show i = S.sz n0 by omega)] at hq
        exact hq
      · rw [if_neg (show ¬ i = S.sz n0 by omega), ← hu] at hq
        exact hq
  have key : ∀ (m i : Nat) (τ : Mm) (V : Wk) (u : Int32), i + m = S.sz n0 → u = jI (i : Int) → (∀ c, c ≠ 2 → c ≠ 63 → c ∉ rS → τ.1 c = τ1.1 c) → τ.2 = σ.2 → CI τ ru → Kr τ 2 V → WB ru V → runS ru S n0 (S.sz n0) 0 W = runS ru S n0 m i V → Wp l G (d + 8) mX11_run 58 [(0, .ref 0), (1, .int x), (2, .int y), (3, .int (jI (S.sz n0 : Int))), (4, .int u)] [] τ Q := by
    intro m
    induction m with
    | zero =>
      intro i τ V u hm hu f1 f2 hC hV hB he
      refine wX11_run [(80, [0, 1, 2, 3, 4])] 60 ?_
      refine brle (S.sz n0 : Int) (i : Int) (fun _ => ?_) (fun z => by omega) (hx := rfl) (hy := hu)
      exact fin τ V i u (by omega) hu f1 f2 hC hV he
    | succ m ih =>
      intro i τ V u hm hu f1 f2 hC hV hB he
      have St : SK τ S := hS.fr ((f1 12 (by decide) (by decide) (by decide)).trans (N1 12 (by decide))) ((f1 14 (by decide) (by decide) (by decide)).trans (N1 14 (by decide))) ((f1 13 (by decide) (by decide) (by decide)).trans (N1 13 (by decide)))
      have ho := sOut_in ru S n0 i V
      have es : runS ru S n0 (m + 1) i V = if (sOut ru S n0 i V).1 = -1 then runS ru S n0 m (i + 1) (sOut ru S n0 i V).2.2.2 else (i, V) := rfl
      refine wX11_run [(80, [0, 1, 2, 3, 4]), (58, [0, 1, 2, 3, 4])] 60 ?_
      refine brle (S.sz n0 : Int) (i : Int) (fun z => by omega) (fun _ => ?_) (hx := rfl) (hy := hu)
      refine k_triesS n0 i ⟨hV, hC, hB⟩ St (by omega) (by omega) (fun ρ p1 p2 p3 p4 => ?_) ex hu
      refine brz _ (fun z => ?_) (fun z => ?_)
      · rw [ho.2.2 z] at p4
        exact fin ρ V i u (by omega) hu (fun c q1 q2 q3 => (p1 c q1 q2 q3).trans (f1 c q1 q2 q3)) (p2.trans f2) p3 p4 (by rw [he, es, if_neg z])
      · exact ih (i + 1) ρ (sOut ru S n0 i V).2.2.2 _ (by omega) (by rw [hu]; first | rfl | assumption | (simp only [jlit, jneg, jadd, jsub, jmul]; done) | (simp only [jlit, jneg, jadd, jsub, jmul]; congr 1 <;> omega) | (congr 1 <;> omega)) (fun c q1 q2 q3 => (p1 c q1 q2 q3).trans (f1 c q1 q2 q3)) (p2.trans f2) p3 p4 (WB_out hr hB _ _ _ _ (hS.1.2.2.2 n0 i (by omega) (by omega))) (by rw [he, es, if_pos z])
  exact key (S.sz n0) 0 τ1 W _ (by omega) rfl (fun _ _ _ _ => rfl) L1 C1 K1 hK.2.2 rfl
/-- count, by what it tells -/
theorem k_count {x : Int32} (i : Int) (v1 v2 : Int32) (y : Int) (hC : HC σ H) (hE : H.E < 1000000) (h1 : σ.1 1 1 = jI y) (h2 : σ.1 12 2 = v1) (h3 : σ.1 6 1 = v2) (ri : R31 i) (hq : Q (some (.int (if i = 0 then jI y else if i = 1 then v1 else if i = 2 then v2 else if i = 3 then jI ((min 60 H.E : Nat) : Int) else if i = 4 then jI (H.A : Int) else jI (-1000000)))) σ) (ex : x = jI i := by first | rfl | assumption | (simp only [jlit, jneg, jadd, jsub, jmul]; done) | (simp only [jlit, jneg, jadd, jsub, jmul]; congr 1 <;> omega) | (congr 1 <;> omega)) : MW l G (d + 2) mX11_count [.ref 0, .int x] σ Q := by
  have xi : x.toInt = i := by rw [ex]; exact jI_T ri
  have hC' := hC
  obtain ⟨n, n1, n2, a1, e1, _⟩ := hC'
  refine vX11_count [] 60 ?_
  refine ⟨⟨fun e => ?_, fun e => ?_, fun e => ?_, fun e => ?_, fun e => ?_, trivial⟩, fun e => ?_⟩
  · rw [if_pos (by omega)] at hq
    exact ldI 14 1 h1 hq
  · rw [if_neg (by omega), if_pos (by omega), ← h2] at hq
    exact hq
  · rw [if_neg (by omega), if_neg (by omega), if_pos (by omega), ← h3] at hq
    exact hq
  · rw [if_neg (by omega), if_neg (by omega), if_neg (by omega), if_pos (by omega)] at hq
    exact k_shown hC hE hq
  · rw [if_neg (by omega), if_neg (by omega), if_neg (by omega), if_neg (by omega), if_pos (by omega), ← a1] at hq
    exact hq
  · have e : x.toInt < 0 ∨ 4 < x.toInt := e
    rw [if_neg (by omega), if_neg (by omega), if_neg (by omega), if_neg (by omega), if_neg (by omega)] at hq
    exact hq
theorem c_count {x : Int32} (i : Int) (v1 v2 v3 v4 : Int32) (y : Int) (h0 : σ.1 98 17 = 0 ∧ y = 0 ∨ σ.1 98 17 = 1 ∧ σ.1 101 1 = jI y) (h2 : σ.1 98 16 = v1) (h3 : σ.1 98 2 = v2) (h4 : σ.1 108 313 = v3) (h5 : σ.1 98 25 = v4) (ri : R31 i) (hq : Q (some (.int (if i = 0 then jI y else if i = 1 then v1 else if i = 2 then v2 else if i = 3 then v3 else if i = 4 then v4 else jI (-1000000)))) (uI σ 98 0 0)) (ex : x = jI i := by first | rfl | assumption | (simp only [jlit, jneg, jadd, jsub, jmul]; done) | (simp only [jlit, jneg, jadd, jsub, jmul]; congr 1 <;> omega) | (congr 1 <;> omega)) : MW l G (d + 2) mX12_count [.ref 98, .int x] σ Q := by
  have xi : x.toInt = i := by rw [ex]; exact jI_T ri
  have u : ∀ k, k ≠ 0 → (uI σ 98 0 0).1 98 k = σ.1 98 k := fun k hk => uI_ne (Or.inr hk)
  refine vX12_count [] 60 ?_
  refine ⟨⟨fun e => ?_, fun e => ?_, fun e => ?_, fun e => ?_, fun e => ?_, trivial⟩, fun e => ?_⟩
  · rw [if_pos (by omega)] at hq
    rcases h0 with ⟨z1, z2⟩ | ⟨z1, z2⟩
    · refine And.intro (fun _ => ?_) (fun q => absurd ((u 17 (by decide)).trans z1) q)
      rw [z2] at hq
      exact hq
    · refine And.intro (fun q => absurd (((u 17 (by decide)).trans z1).symm.trans q) (by decide)) (fun _ => ?_)
      exact ldI 14 1 (show _ = jI y by rw [uI_n (by decide)]; exact z2) hq
  · rw [if_neg (by omega), if_pos (by omega), ← h2, ← u 16 (by decide)] at hq
    exact hq
  · rw [if_neg (by omega), if_neg (by omega), if_pos (by omega), ← h3, ← u 2 (by decide)] at hq
    exact hq
  · rw [if_neg (by omega), if_neg (by omega), if_neg (by omega), if_pos (by omega)] at hq
    exact ldI 494 313 (show _ = v3 by rw [uI_n (by decide)]; exact h4) hq
  · rw [if_neg (by omega), if_neg (by omega), if_neg (by omega), if_neg (by omega), if_pos (by omega), ← h5, ← u 25 (by decide)] at hq
    exact hq
  · have e : x.toInt < 0 ∨ 4 < x.toInt := e
    rw [if_neg (by omega), if_neg (by omega), if_neg (by omega), if_neg (by omega), if_neg (by omega)] at hq
    exact hq
end KRu
