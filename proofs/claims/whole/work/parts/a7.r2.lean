-- what is wrong with a text
/-- the tape read as clauses: a loan (0), a policy (2) -/
def rdC (T : Tp) (b : Nat) : Int × Pl × (Nat → Int) := clF T b (T.n + 1) 0 0 [] (plB 0)
def rdS' (T : Tp) : Int × Pl := scF T 16 0 []
def aFault (T : Tp) (i : Int) : Int := if 0 ≤ i ∧ i ≤ 2 then (if i = 1 then (rdS' T).1 else (rdC T i.toNat).1) else -2
section KEx
variable {l : Launch} {G : GT} {d : Nat} {σ : Mm} {Q : Po} {T : Tp}
theorem k_begin {x : Int32} (hG : GX G) (hT : TK σ T) (hq : ∀ τ : Mm, (∀ c, c ≠ 8 → c ≠ 9 → c ≠ 11 → τ.1 c = σ.1 c) → τ.2 = σ.2 → (∀ k, k ≠ 2 → k ≠ 5 → τ.1 8 k = σ.1 8 k) → τ.1 8 5 = jI 0 → τ.1 8 2 = jI 0 → (∀ j, j < 4 → τ.1 11 j = jI 0) → (∀ j, j < 14 → τ.1 9 j = jI (plB 0 j)) → Wp l G (d + 5) mX4_examine 32 [(0, .ref 8), (1, .int x)] [] τ Q) : MW l G (d + 5) mX4_examine [.ref 8, .int x] σ Q := by
  refine vX4_examine [(32, [0, 1])] 60 ?_
  refine c_fill2 (a := 11) (by decide) (by decide) (by decide) (fun τ g1 g2 g3 => ?_)
  refine And.intro hG ?_
  refine And.intro hG (And.intro ⟨by decide, by decide, by decide, by decide, by decide, by decide, by decide⟩ ?_)
  refine hq _ (fun c k1 k2 k3 => ?_) ?_ (fun k k1 k2 => ?_) ?_ ?_ (fun j hj => ?_) (fun j hj => ?_)
  · rw [uR_n k2, g2 c k3, uI_n k1, uI_n k1]
  · show τ.2 = _
    rw [g1]
    rfl
  · rw [uR_n (by decide), g2 8 (by decide), uI_ne (Or.inr k1), uI_ne (Or.inr k2)]
  · rw [uR_n (by decide), g2 8 (by decide), uI_ne (Or.inr (by decide)), uI_at]
    rfl
  · rw [uR_n (by decide), g2 8 (by decide), uI_at]
    rfl
  · rw [uR_n (by decide), g3 j, if_pos (by show j < 4; omega)]
    rfl
  · rw [uR_s]
    show (if 0 ≤ j ∧ j < 0 + 14 then (stc 206).getD (0 + (j - 0)) 0 else τ.1 9 j) = _
    rw [if_pos (by omega), Nat.sub_zero]
    exact plB_at 0 j
theorem k_examineC {x : Int32} (hG : GX G) (b : Nat) (hb : b = 0 ∨ b = 2) (hT : TK σ T)
    (hq : ∀ τ : Mm, (∀ c, c ≠ 8 → c ≠ 9 → c ≠ 10 → c ≠ 11 → τ.1 c = σ.1 c) → τ.2 = σ.2 → (∀ k, k ≠ 2 → k ≠ 5 → k ≠ 6 → τ.1 8 k = σ.1 8 k) → ((rdC T b).1 = -1 → PK τ (rdC T b).2.1 ∧ (∀ j, j < 14 → τ.1 9 j = jI ((rdC T b).2.2 j)) ∧ ∃ had, PW b had (rdC T b).2.1 (rdC T b).2.2) → Q (some (.int (jI (rdC T b).1))) τ)
    (ex : x = jI (b : Int) := by first | rfl | assumption | (simp only [jlit, jneg, jadd, jsub, jmul]; done) | (simp only [jlit, jneg, jadd, jsub, jmul]; congr 1 <;> omega) | (congr 1 <;> omega)) : MW l G (d + 5) mX4_examine [.ref 8, .int x] σ Q := by
  refine k_begin hG hT (fun τ e1 e2 e3 e5 e6 e7 e8 => ?_)
  have Tt : TK τ T := hT.fr (e1 6 (by decide) (by decide) (by decide)) (e1 7 (by decide) (by decide) (by decide))
  refine wX4_examine [] 60 ?_
  refine breq (b : Int) 1 (fun q => by omega) (fun _ => ?_) (hx := ex) (hy := rfl)
  refine k_readClauses hG b (rdC T b) hb Tt rfl e5 e6 e7 e8 (fun ρ g1 g2 g3 g4 => ?_) ex
  exact hq ρ (fun c k1 k2 k3 k4 => (g1 c k1 k2 k3 k4).trans (e1 c k1 k2 k4)) (g2.trans e2) (fun k k1 k2 k3 => (g3 k k1 k2 k3).trans (e3 k k1 k2)) g4
theorem k_examineS {x : Int32} (hG : GX G) (hT : TK σ T)
    (hq : ∀ τ : Mm, (∀ c, c ≠ 8 → c ≠ 9 → c ≠ 10 → c ≠ 11 → τ.1 c = σ.1 c) → τ.2 = σ.2 → (∀ k, k ≠ 2 → k ≠ 5 → k ≠ 6 → τ.1 8 k = σ.1 8 k) → ((rdS' T).1 = -1 → SPK τ (rdS' T).2 ∧ SW (rdS' T).2 ∧ 1 ≤ (rdS' T).2.length ∧ (rdS' T).2.length ≤ 16) → Q (some (.int (jI (rdS' T).1))) τ)
    (ex : x = jI 1 := by first | rfl | assumption | (simp only [jlit, jneg, jadd, jsub, jmul]; done) | (simp only [jlit, jneg, jadd, jsub, jmul]; congr 1 <;> omega) | (congr 1 <;> omega)) : MW l G (d + 5) mX4_examine [.ref 8, .int x] σ Q := by
  refine k_begin hG hT (fun τ e1 e2 e3 e5 e6 e7 e8 => ?_)
  have Tt : TK τ T := hT.fr (e1 6 (by decide) (by decide) (by decide)) (e1 7 (by decide) (by decide) (by decide))
  refine wX4_examine [] 60 ?_
  refine breq 1 1 (fun _ => ?_) (fun q => absurd rfl q) (hx := ex) (hy := rfl)
  refine k_readSteps hG (rdS' T) Tt rfl e5 e6 (fun ρ g1 g2 g3 g4 => ?_)
  exact hq ρ (fun c k1 k2 k3 k4 => (g1 c k1 k3).trans (e1 c k1 k2 k4)) (g2.trans e2) (fun k k1 k2 k3 => (g3 k k1 k2 k3).trans (e3 k k1 k2)) g4
theorem k_fault {x : Int32} (hG : GX G) (i : Int) (ri : R31 i) (hT : TK σ T) (hq : ∀ τ : Mm, (∀ c, c ≠ 8 → c ≠ 9 → c ≠ 10 → c ≠ 11 → τ.1 c = σ.1 c) → τ.2 = σ.2 → Q (some (.int (jI (aFault T i)))) τ) (ex : x = jI i := by first | rfl | assumption | (simp only [jlit, jneg, jadd, jsub, jmul]; done) | (simp only [jlit, jneg, jadd, jsub, jmul]; congr 1 <;> omega) | (congr 1 <;> omega)) : MW l G (d + 6) mX11_fault [.ref 0, .int x] σ Q := by
  refine vX11_fault [] 40 ?_
  unfold aFault at hq
  refine brlt i 0 (fun q => ?_) (fun q => ?_) (hx := ex) (hy := rfl)
  · rw [if_neg (by omega)] at hq
    exact hq σ (fun _ _ _ _ _ => rfl) rfl
  · refine brle i 2 (fun q2 => ?_) (fun q2 => ?_) (hx := ex) (hy := rfl)
    · rw [if_pos ⟨q, q2⟩] at hq
      by_cases e : i = 1
      · rw [if_pos e] at hq
        exact k_examineS hG hT (fun τ g1 g2 _ _ => hq τ g1 g2) (by rw [ex, e])
      · rw [if_neg e] at hq
        exact k_examineC hG i.toNat (by omega) hT (fun τ g1 g2 _ _ => hq τ g1 g2) (by rw [ex]; congr 1; omega)
    · rw [if_neg (by omega)] at hq
      exact hq σ (fun _ _ _ _ _ => rfl) rfl
end KEx
section MEx
variable {l : Launch} {G : GT} {d : Nat} {σ : Mm} {Q : Po} {T : Tp}
/-- what reading a text leaves: the tape's place, the rows read, the last script's room -/
def FX (σ τ : Mm) : Prop := (∀ c, c ∉ [98, 100, 102, 103, 104, 106, 107] → τ.1 c = σ.1 c) ∧ τ.2 = σ.2 ∧ (∀ k, k ∉ [0, 3, 4, 13, 14, 15, 18, 19] → τ.1 98 k = σ.1 98 k) ∧ (∀ j, j < 256 → τ.1 106 j = σ.1 106 j) ∧ (∀ j, j < 4 → τ.1 107 j = σ.1 107 j)
theorem c_fault {x : Int32} (hG : GX G) (i : Int) (ri : R31 i) (hT : TM σ T)
    (hq : ∀ τ : Mm, FX σ τ → (i = 0 → (rdC T 0).1 = -1 → LM τ (rdC T 0).2.1 (rdC T 0).2.2) → (i = 2 → (rdC T 2).1 = -1 → LPd τ (rdC T 2).2.1) → (i = 1 → (rdS' T).1 = -1 → SPM τ (rdS' T).2 ∧ τ.1 107 4 = jI ((rdS' T).2.length : Int)) → Q (some (.int (jI (aFault T i)))) τ) (ex : x = jI i := by first | rfl | assumption | (simp only [jlit, jneg, jadd, jsub, jmul]; done) | (simp only [jlit, jneg, jadd, jsub, jmul]; congr 1 <;> omega) | (congr 1 <;> omega)) : MW l G (d + 8) mX12_fault [.ref 98, .int x] σ Q := by
  refine vX12_fault [] 60 ?_
  unfold aFault at hq
  refine c_isIn i 0 2 ?_ (by rw [ex, jI_L ri]) rfl rfl
  refine brz _ (fun q => ?_) (fun q => ?_)
  · rw [if_neg q] at hq
    refine hq _ ⟨fun c hc => uI_n (by intro e; rw [e] at hc; exact hc (by decide)), rfl, fun k hk => uI_ne (Or.inr (by intro e; rw [e] at hk; exact hk (by decide))), fun j _ => by rw [uI_n (by decide)], fun j _ => by rw [uI_n (by decide)]⟩ (fun e => by omega) (fun e => by omega) (fun e => by omega)
  · rw [if_pos q] at hq
    obtain ⟨ρ, hρ⟩ : ∃ ρ, ρ = uI (uI (uI σ 98 0 0) 98 3 0) 98 4 (-1) := ⟨_, rfl⟩
    have r1 : ∀ c, c ≠ 98 → ρ.1 c = σ.1 c := fun c hc => by rw [hρ, uI_n hc, uI_n hc, uI_n hc]
    have r3 : ∀ k, k ≠ 0 → k ≠ 3 → k ≠ 4 → ρ.1 98 k = σ.1 98 k := fun k k1 k2 k3 => by rw [hρ, uI_ne (Or.inr k3), uI_ne (Or.inr k2), uI_ne (Or.inr k1)]
    have r2 : ρ.2 = σ.2 := by rw [hρ]; rfl
    have ra : ρ.1 98 3 = jI 0 := by rw [hρ, uI_ne (Or.inr (by decide)), uI_at]; rfl
    have rf : ρ.1 98 4 = -1 := by rw [hρ, uI_at]
    have Tr : TM ρ T := hT.fr (r3 2 (by decide) (by decide) (by decide)) (r1 99 (by decide))
    subst hρ
    refine breq i 0 (fun e => ?_) (fun e => ?_) (hx := ex) (hy := rfl)
    · rw [if_neg (by omega), show i.toNat = 0 by omega] at hq
      refine c_readLoan hG (rdC T 0) Tr rfl ra rf (fun τ g1 g2 g3 g4 g5 => ?_)
      have := hq τ ⟨fun c hc => ?_, g2.trans r2, fun k hk => ?_, fun j hj => ?_, fun j hj => ?_⟩ (fun _ => g5) (fun e2 => by omega) (fun e2 => by omega)
      · rw [← g4] at this
        exact this
      · simp only [List.mem_cons, List.not_mem_nil, or_false, not_or] at hc
        rw [g1 c hc.1 hc.2.1 hc.2.2.1 hc.2.2.2.1, r1 c hc.1]
      · simp only [List.mem_cons, List.not_mem_nil, or_false, not_or] at hk
        rw [g3 k (by omega) (by omega) (by omega) (by omega) (by omega) (by omega), r3 k (by omega) (by omega) (by omega)]
      · rw [g1 106 (by decide) (by decide) (by decide) (by decide), r1 106 (by decide)]
      · rw [g1 107 (by decide) (by decide) (by decide) (by decide), r1 107 (by decide)]
    · refine breq i 1 (fun e1 => ?_) (fun e1 => ?_) (hx := ex) (hy := rfl)
      · rw [if_pos e1] at hq
        refine c_readScript hG (rdS' T) Tr rfl ra rf (fun τ g1 g2 g3 g4 g5 g6 g7 => ?_)
        have := hq τ ⟨fun c hc => ?_, g2.trans r2, fun k hk => ?_, fun j hj => ?_, fun j hj => ?_⟩ (fun e2 => by omega) (fun e2 => by omega) (fun _ z => ⟨(g5 z).1, (g5 z).2.1⟩)
        · rw [← g4] at this
          exact this
        · simp only [List.mem_cons, List.not_mem_nil, or_false, not_or] at hc
          rw [g1 c (by omega) (by omega) (by omega), r1 c hc.1]
        · simp only [List.mem_cons, List.not_mem_nil, or_false, not_or] at hk
          rw [g3 k (by omega) (by omega), r3 k (by omega) (by omega) (by omega)]
        · rw [g6 j hj, r1 106 (by decide)]
        · rw [g7 j hj, r1 107 (by decide)]
      · rw [if_neg e1, show i.toNat = 2 by omega] at hq
        refine c_readPolicy hG (rdC T 2) Tr rfl ra rf (fun τ g1 g2 g3 g4 g5 => ?_)
        have := hq τ ⟨fun c hc => ?_, g2.trans r2, fun k hk => ?_, fun j hj => ?_, fun j hj => ?_⟩ (fun e2 => by omega) (fun _ => g5) (fun e2 => by omega)
        · rw [← g4] at this
          exact this
        · simp only [List.mem_cons, List.not_mem_nil, or_false, not_or] at hc
          rw [g1 c (by omega) (by omega), r1 c hc.1]
        · simp only [List.mem_cons, List.not_mem_nil, or_false, not_or] at hk
          rw [g3 k (by omega) (by omega) (by omega) (by omega) (by omega), r3 k (by omega) (by omega) (by omega)]
        · rw [g1 106 (by decide) (by decide), r1 106 (by decide)]
        · rw [g1 107 (by decide) (by decide), r1 107 (by decide)]
end MEx
