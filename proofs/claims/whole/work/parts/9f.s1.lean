-- scripts: step, run, perform of the reference
/-- how many scripts, their lengths, their numbers -/
def Sc : Type := Nat × (Nat → Nat) × (Nat → Int)
def Sc.c (S : Sc) : Nat := S.1
def Sc.sz (S : Sc) (s : Nat) : Nat := S.2.1 s
def Sc.st (S : Sc) (s i w : Nat) : Int := S.2.2 (64 * s + 4 * i + w)
def SB (S : Sc) : Prop := S.c ≤ 4 ∧ (∀ s, s < S.c → 1 ≤ S.sz s ∧ S.sz s ≤ 16) ∧ (∀ s i w, s < S.c → i < S.sz s → w < 4 → R31 (S.st s i w)) ∧ (∀ s i, s < S.c → i < S.sz s → 0 ≤ S.st s i 0 ∧ S.st s i 0 ≤ 9)
def SM (σ : Mm) (S : Sc) : Prop := SB S ∧ σ.1 98 16 = jI (S.c : Int) ∧ (∀ s, s < S.c → σ.1 107 s = jI (S.sz s : Int)) ∧ (∀ s i w, s < S.c → i < S.sz s → w < 4 → σ.1 106 (64 * s + 4 * i + w) = jI (S.st s i w))
def SK (σ : Mm) (S : Sc) : Prop := SB S ∧ σ.1 12 2 = jI (S.c : Int) ∧ (∀ s, s < S.c → σ.1 14 s = jI (S.sz s : Int)) ∧ (∀ s i w, s < S.c → i < S.sz s → w < 4 → σ.1 13 (64 * s + 4 * i + w) = jI (S.st s i w))
theorem SM.fr {σ τ : Mm} {S : Sc} (h : SM σ S) (e1 : τ.1 98 16 = σ.1 98 16) (e2 : τ.1 107 = σ.1 107) (e3 : τ.1 106 = σ.1 106) : SM τ S := ⟨h.1, by rw [e1]; exact h.2.1, fun s q => by rw [e2]; exact h.2.2.1 s q, fun s i w q1 q2 q3 => by rw [e3]; exact h.2.2.2 s i w q1 q2 q3⟩
theorem SK.fr {σ τ : Mm} {S : Sc} (h : SK σ S) (e1 : τ.1 12 = σ.1 12) (e2 : τ.1 14 = σ.1 14) (e3 : τ.1 13 = σ.1 13) : SK τ S := ⟨h.1, by rw [e1]; exact h.2.1, fun s q => by rw [e2]; exact h.2.2.1 s q, fun s i w q1 q2 q3 => by rw [e3]; exact h.2.2.2 s i w q1 q2 q3⟩
def sOut (ru : Nat → Int) (S : Sc) (s i : Nat) (W : Wk) : Int × Int × Int × Wk := wOut ru W (S.st s i 0) (S.st s i 1) (S.st s i 2) (S.st s i 3)
def runS (ru : Nat → Int) (S : Sc) (s : Nat) : Nat → Nat → Wk → Nat × Wk
  | 0, i, W => (i, W)
  | n + 1, i, W => if (sOut ru S s i W).1 = -1 then runS ru S s n (i + 1) (sOut ru S s i W).2.2.2 else (i, W)
def sAct (ru : Nat → Int) (S : Sc) (s i : Nat) (H : Hs) : Hs := hAct ru H (S.st s i 0) (S.st s i 1) (S.st s i 2) (S.st s i 3)
def perS (ru : Nat → Int) (S : Sc) (s : Nat) : Nat → Nat → Hs → Nat × Hs
  | 0, i, H => (i, H)
  | n + 1, i, H => if (sOut ru S s i H.W).1 = -1 then perS ru S s n (i + 1) (sAct ru S s i H) else (i, H)
def aStep (S : Sc) (s i w : Int) : Int := if (0 ≤ s ∧ s < (S.c : Int)) ∧ (0 ≤ i ∧ i < (S.sz s.toNat : Int)) ∧ (0 ≤ w ∧ w ≤ 3) then S.st s.toNat i.toNat w.toNat else -1000000
def aRun (ru : Nat → Int) (W : Wk) (S : Sc) (s w : Int) : Int := if (0 ≤ s ∧ s < (S.c : Int)) ∧ (0 ≤ w ∧ w ≤ 1) then (if w = 1 then (runS ru S s.toNat (S.sz s.toNat) 0 W).2.f 7 else if (runS ru S s.toNat (S.sz s.toNat) 0 W).1 = S.sz s.toNat then -1 else ((runS ru S s.toNat (S.sz s.toNat) 0 W).1 : Int)) else -1000000
theorem runS_in (ru : Nat → Int) (S : Sc) (s : Nat) : ∀ n i W, (runS ru S s n i W).1 ≤ i + n
  | 0, i, W => Nat.le_refl _
  | n + 1, i, W => by
    unfold runS
    split
    · have := runS_in ru S s n (i + 1) (sOut ru S s i W).2.2.2
      omega
    · show i ≤ i + (n + 1)
      omega
theorem perS_in (ru : Nat → Int) (S : Sc) (s : Nat) : ∀ n i H, (perS ru S s n i H).1 ≤ i + n ∧ (perS ru S s n i H).2.E ≤ H.E + n
  | 0, i, H => ⟨Nat.le_refl _, Nat.le_refl _⟩
  | n + 1, i, H => by
    unfold perS
    split
    · have h1 := perS_in ru S s n (i + 1) (sAct ru S s i H)
      have h2 : (sAct ru S s i H).E ≤ H.E + 1 := hAct_E ru H _ _ _ _
      omega
    · exact ⟨show i ≤ i + (n + 1) by omega, show H.E ≤ H.E + (n + 1) by omega⟩
section MSc
variable {l : Launch} {G : GT} {d : Nat} {σ : Mm} {Q : Po} {ru : Nat → Int} {W : Wk} {H : Hs} {S : Sc}
theorem c_isScript {x : Int32} (s : Int) (hS : SM σ S) (rs : R31 s) (hq : Q (some (.int (if 0 ≤ s ∧ s < (S.c : Int) then 1 else 0))) σ) (ex : x = jI s := by first | rfl | assumption | (simp only [jlit, jneg, jadd, jsub, jmul]; done) | (simp only [jlit, jneg, jadd, jsub, jmul]; congr 1 <;> omega) | (congr 1 <;> omega)) : MW l G (d + 1) mX12_isScript [.ref 98, .int x] σ Q := by
  have hc := hS.1.1
  have e : (0 ≤ s ∧ s ≤ (S.c : Int) - 1) = (0 ≤ s ∧ s < (S.c : Int)) := propext (by omega)
  refine vX12_isScript [] 40 ?_
  refine c_isIn s 0 ((S.c : Int) - 1) ?_ (by rw [ex, jI_L rs]) rfl (by rw [hS.2.1, show (1 : Int32) = jI 1 from rfl, jsub, jI_L (by omega)])
  simp only [e]
  refine And.intro ?_ hq
  split
  · exact Or.inr rfl
  · exact Or.inl rfl
theorem c_step {x y z : Int32} (s i w : Int) (hS : SM σ S) (rs : R31 s) (ri : R31 i) (rw' : R31 w) (hq : Q (some (.int (jI (aStep S s i w)))) (uI σ 98 0 0)) (ex : x = jI s := by first | rfl | assumption | (simp only [jlit, jneg, jadd, jsub, jmul]; done) | (simp only [jlit, jneg, jadd, jsub, jmul]; congr 1 <;> omega) | (congr 1 <;> omega)) (ey : y = jI i := by first | rfl | assumption | (simp only [jlit, jneg, jadd, jsub, jmul]; done) | (simp only [jlit, jneg, jadd, jsub, jmul]; congr 1 <;> omega) | (congr 1 <;> omega)) (ez : z = jI w := by first | rfl | assumption | (simp only [jlit, jneg, jadd, jsub, jmul]; done) | (simp only [jlit, jneg, jadd, jsub, jmul]; congr 1 <;> omega) | (congr 1 <;> omega)) : MW l G (d + 2) mX12_step [.ref 98, .int x, .int y, .int z] σ Q := by
  have S0 : SM (uI σ 98 0 0) S := hS.fr (by rw [uI_ne (Or.inr (by decide))]) (by rw [uI_n (by decide)]) (by rw [uI_n (by decide)])
  obtain ⟨⟨c4, b1, b2, b3⟩, e1, e2, e3⟩ := S0
  unfold aStep at hq
  have no : ¬ ((0 ≤ s ∧ s < (S.c : Int)) ∧ (0 ≤ i ∧ i < (S.sz s.toNat : Int)) ∧ (0 ≤ w ∧ w ≤ 3)) → Q (some (.int (-1000000))) (uI σ 98 0 0) := fun q => by
    rw [if_neg q] at hq
    exact hq
  refine vX12_step [] 60 ?_
  refine c_isScript s ⟨⟨c4, b1, b2, b3⟩, e1, e2, e3⟩ rs ?_
  refine brz _ (fun q => no (fun z => q z.1)) (fun q1 => ?_)
  have hz := b1 s.toNat (by omega)
  refine ldI 5 s.toNat (e2 s.toNat (by omega)) ?_ (hi := by rw [ex]; congr 1; omega)
  refine c_isIn i 0 ((S.sz s.toNat : Int) - 1) ?_ (by rw [ey, jI_L ri]) rfl (by rw [show (1 : Int32) = jI 1 from rfl, jsub, jI_L (by omega)])
  refine brz _ (fun q => no (by omega)) (fun q2 => ?_)
  refine c_isIn w 0 3 ?_ (by rw [ez, jI_L rw'])
  refine brz _ (fun q => no (by omega)) (fun q3 => ?_)
  rw [if_pos (by omega)] at hq
  refine ldI 320 (64 * s.toNat + 4 * i.toNat + w.toNat) (e3 s.toNat i.toNat w.toNat (by omega) (by omega) (by omega)) hq (hi := by rw [ex, ey, ez]; simp only [jlit, jadd, jmul]; congr 1; omega)
theorem c_run {x y : Int32} (s w : Int) (hM : RM σ ru W) (hS : SM σ S) (rs : R31 s) (rw' : R31 w) (hq : ∀ τ, Qf σ τ → Q (some (.int (jI (aRun ru W S s w)))) τ) (ex : x = jI s := by first | rfl | assumption | (simp only [jlit, jneg, jadd, jsub, jmul]; done) | (simp only [jlit, jneg, jadd, jsub, jmul]; congr 1 <;> omega) | (congr 1 <;> omega)) (ey : y = jI w := by first | rfl | assumption | (simp only [jlit, jneg, jadd, jsub, jmul]; done) | (simp only [jlit, jneg, jadd, jsub, jmul]; congr 1 <;> omega) | (congr 1 <;> omega)) : MW l G (d + 12) mX12_run [.ref 98, .int x, .int y] σ Q := by
  have f0 : Qf σ (uI σ 98 0 0) := Qf.rf.u8 (by decide)
  have M0 := hM.fr f0
  have hr := hM.2.1.1
  have S0 : SM (uI σ 98 0 0) S := hS.fr (f0.2.2 16 (by decide)) (f0.1 107 (by decide)) (f0.1 106 (by decide))
  have hc := hS.1.1
  unfold aRun at hq
  have no : ¬ ((0 ≤ s ∧ s < (S.c : Int)) ∧ (0 ≤ w ∧ w ≤ 1)) → Q (some (.int (-1000000))) (uI σ 98 0 0) := fun q => by
    rw [if_neg q] at hq
    exact hq _ f0
  refine vX12_run [(52, [0, 1, 2, 3, 4])] 60 ?_
  refine c_isScript s S0 rs ?_
  refine brz _ (fun q => no (fun z => q z.1)) (fun q1 => ?_)
  refine And.intro (fun q => absurd (M0.1.symm.trans q) (by decide)) (fun _ => ?_)
  refine c_isIn w 0 1 ?_ (by rw [ey, jI_L rw'])
  refine brz _ (fun q => no (fun z => q z.2)) (fun q2 => ?_)
  rw [if_pos ⟨q1, q2⟩] at hq
  obtain ⟨n0, rfl⟩ : ∃ n : Nat, s = (n : Int) := ⟨s.toNat, by omega⟩
  rw [show (n0 : Int).toNat = n0 from Int.toNat_natCast n0] at hq
  have hz := hS.1.2.1 n0 (by omega)
  refine c_copyRow 0 0 (by decide) (by decide) (by decide) (by decide) (by decide) (fun τ1 g1 g2 g3 => ?_)
  have F1 : Qf σ τ1 := f0.tr ⟨fun a qa => g2 a (fun z => qa (by rw [z]; decide)), fun a _ => by rw [g1], fun k _ => by rw [g2 98 (by decide)]⟩
  have R9 : Mr τ1 ru 109 W := by
    have h3 := hM.2.2.1
    have e : ∀ k, k < 494 → τ1.1 109 k = σ.1 108 k := fun k hk => by rw [g3, if_pos (by omega), show 0 + (k - 0) = k by omega, uI_n (by decide)]
    exact Mr.de0 (D := W.de) h3 (fun k hk => e k (by omega)) (fun t h p1 p2 => by
      unfold RB at hr
      rw [e _ (by omega)]
      exact h3.2.2.2 t h p1 p2) hr
  have key : ∀ (m i : Nat) (τ : Mm) (V : Wk) (u : Int32), i + m = S.sz n0 → u = jI (i : Int) → Qf σ τ → Mr τ ru 109 V → WB ru V → runS ru S n0 (S.sz n0) 0 W = runS ru S n0 m i V → Wp l G (d + 12) mX12_run 52 [(0, .ref 98), (1, .int x), (2, .int y), (3, .int u), (4, .int 1)] [] τ Q := by
    -- the answer
    have fin : ∀ (τ : Mm) (V : Wk) (i : Nat) (u : Int32), i ≤ S.sz n0 → u = jI (i : Int) → Qf σ τ → Mr τ ru 109 V → runS ru S n0 (S.sz n0) 0 W = (i, V) → Wp l G (d + 12) mX12_run 141 [(0, .ref 98), (1, .int x), (2, .int y), (3, .int u)] [] τ Q := by
      intro τ V i u hi hu F hV he
      have hq := hq τ F
      rw [he] at hq
      have St := hS.fr (F.2.2 16 (by decide)) (F.1 107 (by decide)) (F.1 106 (by decide))
      refine wX12_run [] 60 ?_
      refine breq w 1 (fun z => ?_) (fun z => ?_) (hx := ey) (hy := rfl)
      · rw [if_pos z] at hq
        exact ldI 494 7 (hV.1 7 (by omega)) hq
      · rw [if_neg z] at hq
        refine ldI 5 n0 (St.2.2.1 n0 (by omega)) ?_ (hi := ex)
        refine breq (i : Int) (S.sz n0 : Int) (fun z => ?_) (fun z => ?_) (hx := hu) (hy := rfl)
        · rw [if_pos (show i = S.sz n0 by omega)] at hq
          exact hq
        · rw [if_neg (show ¬ i = S.sz n0 by omega), ← hu] at hq
          exact hq
    intro m
    induction m with
    | zero =>
      intro i τ V u hm hu F hV hB he
      have St := hS.fr (F.2.2 16 (by decide)) (F.1 107 (by decide)) (F.1 106 (by decide))
      refine wX12_run [(141, [0, 1, 2, 3])] 60 ?_
      refine And.intro (fun q => absurd q (by decide)) (fun _ => ?_)
      refine ldI 5 n0 (St.2.2.1 n0 (by omega)) ?_ (hi := ex)
      refine brle (S.sz n0 : Int) (i : Int) (fun _ => ?_) (fun z => by omega) (hx := rfl) (hy := hu)
      exact fin τ V i u (by omega) hu F hV he
    | succ m ih =>
      intro i τ V u hm hu F hV hB he
      have St := hS.fr (F.2.2 16 (by decide)) (F.1 107 (by decide)) (F.1 106 (by decide))
      have M1 := hM.fr F
      have en := fun w hw => St.2.2.2 n0 i w (by omega) (by omega) hw
      have br := fun w hw => hS.1.2.2.1 n0 i w (by omega) (by omega) hw
      refine wX12_run [(141, [0, 1, 2, 3]), (52, [0, 1, 2, 3, 4])] 60 ?_
      refine And.intro (fun q => absurd q (by decide)) (fun _ => ?_)
      refine ldI 5 n0 (St.2.2.1 n0 (by omega)) ?_ (hi := ex)
      refine brle (S.sz n0 : Int) (i : Int) (fun z => by omega) (fun _ => ?_) (hx := rfl) (hy := hu)
      refine ldI 320 (64 * n0 + 4 * i + 0) (en 0 (by omega)) ?_ (hi := by rw [ex, hu]; first | rfl | assumption | (simp only [jlit, jneg, jadd, jsub, jmul]; done) | (simp only [jlit, jneg, jadd, jsub, jmul]; congr 1 <;> omega) | (congr 1 <;> omega))
      refine ldI 320 (64 * n0 + 4 * i + 1) (en 1 (by omega)) ?_ (hi := by rw [ex, hu]; first | rfl | assumption | (simp only [jlit, jneg, jadd, jsub, jmul]; done) | (simp only [jlit, jneg, jadd, jsub, jmul]; congr 1 <;> omega) | (congr 1 <;> omega))
      refine ldI 320 (64 * n0 + 4 * i + 2) (en 2 (by omega)) ?_ (hi := by rw [ex, hu]; first | rfl | assumption | (simp only [jlit, jneg, jadd, jsub, jmul]; done) | (simp only [jlit, jneg, jadd, jsub, jmul]; congr 1 <;> omega) | (congr 1 <;> omega))
      refine ldI 320 (64 * n0 + 4 * i + 3) (en 3 (by omega)) ?_ (hi := by rw [ex, hu]; first | rfl | assumption | (simp only [jlit, jneg, jadd, jsub, jmul]; done) | (simp only [jlit, jneg, jadd, jsub, jmul]; congr 1 <;> omega) | (congr 1 <;> omega))
      refine c_does (S.st n0 i 0) (S.st n0 i 1) (S.st n0 i 2) (S.st n0 i 3) (Or.inr (Or.inl rfl)) M1.1 M1.2.1 hV M1.2.2.2.1 hB (hS.1.2.2.2 n0 i (by omega) (by omega)) (br 1 (by omega)) (br 2 (by omega)) (br 3 (by omega)) (fun ρ p1 p2 p3 => ?_) rfl rfl rfl rfl
      have ho := wOut_in ru V (S.st n0 i 0) (S.st n0 i 1) (S.st n0 i 2) (S.st n0 i 3)
      have F2 : Qf σ ρ := F.tr ⟨fun a qa => by
        simp only [qA, List.mem_cons, List.not_mem_nil, or_false, not_or] at qa
        exact p1.1 a (by simp only [List.mem_cons, List.not_mem_nil, or_false, not_or]; omega) (by omega), fun a qb => by
        simp only [qB, List.mem_cons, List.not_mem_nil, or_false, not_or] at qb
        exact p1.2.1 a (by simp only [List.mem_cons, List.not_mem_nil, or_false, not_or]; omega), fun k qk => by
        simp only [qK, List.mem_cons, List.not_mem_nil, or_false, not_or] at qk
        exact p1.2.2.1 k (by omega) (by omega)⟩
      have es : runS ru S n0 (m + 1) i V = if (sOut ru S n0 i V).1 = -1 then runS ru S n0 m (i + 1) (sOut ru S n0 i V).2.2.2 else (i, V) := rfl
      refine breq (sOut ru S n0 i V).1 (-1) (fun z => ?_) (fun z => ?_) (hx := rfl) (hy := rfl) (ra := by unfold sOut; omega)
      · refine And.intro (fun q => absurd q (by decide)) (fun _ => ?_)
        refine ih (i + 1) ρ (sOut ru S n0 i V).2.2.2 _ (by omega) (by rw [hu]; first | rfl | assumption | (simp only [jlit, jneg, jadd, jsub, jmul]; done) | (simp only [jlit, jneg, jadd, jsub, jmul]; congr 1 <;> omega) | (congr 1 <;> omega)) F2 p2 (WB_out hr hB _ _ _ _ (hS.1.2.2.2 n0 i (by omega) (by omega))) ?_
        rw [he, es, if_pos z]
      · refine And.intro (fun _ => ?_) (fun q => absurd rfl q)
        refine wX12_run [(141, [0, 1, 2, 3])] 60 ?_
        refine And.intro (fun _ => ?_) (fun q => absurd rfl q)
        have p2 : Mr ρ ru 109 V := by
          have := ho.2.2 z
          rw [this] at p2
          exact p2
        exact fin ρ V i _ (by omega) hu F2 p2 (by rw [he, es, if_neg z])
  exact key (S.sz n0) 0 τ1 W _ (by omega) rfl F1 R9 hM.2.2.2.2 rfl
end MSc
