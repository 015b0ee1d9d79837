-- an act of the class
theorem wRunC_in {ru : Nat → Int} {W : Wk} (hr : RB ru) (ha : ∀ j, 0 ≤ W.am j) : 0 ≤ wRunC ru W ∧ wRunC ru W ≤ 30000 := by
  have h1 := zpr_in hr ha W.t
  have h2 := zl_in hr ha W.t
  unfold RB at hr
  unfold wRunC
  split <;> omega
theorem wOut_came {ru : Nat → Int} {W : Wk} (hr : RB ru) (hB : WB ru W) (k a b c : Int) (h : (wOut ru W k a b c).1 = -1) : 0 ≤ (wOut ru W k a b c).2.1 ∧ (wOut ru W k a b c).2.1 ≤ 1000000 := by
  obtain ⟨b1, bc, b3, b4, b6, b7, b8, t1, t2, t3⟩ := hB
  have ha : ∀ j, 0 ≤ W.am j := fun j => (t1 j).1
  have dd : ∀ dd, 0 ≤ dd ∧ dd ≤ 2 → 0 ≤ (wDeed ru W dd).2.1 ∧ (wDeed ru W dd).2.1 ≤ 1000000 := by
    intro dd h
    unfold wDeed
    split
    · exact ⟨show (0 : Int) ≤ 0 by decide, show (0 : Int) ≤ 1000000 by decide⟩
    · show 0 ≤ dd ∧ dd ≤ 1000000
      omega
  unfold wOut at h ⊢
  split
  · next q => rw [if_pos q] at h; exact absurd h q
  · next q =>
    rw [if_neg q] at h
    have q : wWhy ru W k a b c = -1 := by omega
    unfold wDone
    split
    · have h1 := zd_in hr ha bc.1 bc.2 (W.t + 1)
      show 0 ≤ wPassC ru W ∧ wPassC ru W ≤ 1000000
      unfold wPassC
      split
      · omega
      · split
        · have := wRunC_in (W := (wPass1 ru W 0).put 5 (W.f 5 - 1)) hr ha
          omega
        · omega
    · split
      · show 0 ≤ wGiveC ru W (k - 1) ∧ wGiveC ru W (k - 1) ≤ 1000000
        unfold wGiveC
        split
        · have := wRunC_in (W := (W.put 4 (k - 1)).put 5 (ru 10)) hr ha
          omega
        · omega
      · next k0 k2 =>
        split
        · next k4 =>
          show 0 ≤ W.f 5 ∧ W.f 5 ≤ 1000000
          unfold wWhy at q
          rw [if_neg k2, if_pos k4] at q
          unfold RB at hr
          by_cases z : W.f 4 = 0
          · rw [if_pos z] at q
            split at q <;> omega
          · have := b8 z
            omega
        · split
          · have := t1 a.toNat
            show 0 ≤ W.am a.toNat ∧ W.am a.toNat ≤ 1000000
            omega
          · split
            · have := t2 a.toNat b.toNat
              show 0 ≤ W.ra a.toNat b.toNat ∧ W.ra a.toNat b.toNat ≤ 1000000
              omega
            · split
              · exact dd _ (wBest_in ru W _ _)
              · split
                · show 0 ≤ (wN ru W : Int) ∧ (wN ru W : Int) ≤ 1000000
                  unfold RB at hr
                  have := allN_le (wDif_le ru W) (ru 1).toNat (by omega)
                  unfold wN
                  omega
                · have := zpd_in (ru := ru) (r := W.r) (t3 W.t W.h)
                  exact dd _ (by unfold wPol; omega)
section KAc
variable {l : Launch} {G : GT} {d : Nat} {σ : Mm} {Q : Po} {ru : Nat → Int} {H : Hs}
theorem k_attempt0 {x y z u : Int32} (h1 : σ.1 1 1 = 0) (hq : Q (some (.int (-1))) σ) : MW l G d mX3_attempt [.ref 63, .int x, .int y, .int z, .int u] σ Q := by
  refine vX3_attempt [(21, [0, 1, 2, 3, 4])] 40 ?_
  refine ldI 14 1 h1 ?_
  refine And.intro (fun _ => hq) (fun q => absurd rfl q)
def kAns (ru : Nat → Int) (W : Wk) (k a b c : Int) : Int := if (wOut ru W k a b c).1 = -1 then (wOut ru W k a b c).2.1 else -1
/-- the counts of what was refused -/
def sUp (s : Nat → Int32) (v w : Int) : Nat → Int32 := fun j => if v = 1 ∧ w ≠ -1 ∧ j = w.toNat then s j + 1 else s j
theorem act55 {x y z u w : Int32} (v : Int32) (r : Int) (hv : v = 0 ∨ v = 1) (hr : 0 ≤ r ∧ r ≤ 3) (ew : w = jI (-1 - r))
    (hq : ∀ τ : Mm, (∀ c, c ≠ 4 → τ.1 c = σ.1 c) → τ.2 = σ.2 → (∀ j, τ.1 4 j = sUp (σ.1 4) v.toInt r j) → Q (some (.int (-1))) τ) : Wp l G d mX11_act 55 [(0, .ref 0), (1, .int x), (2, .int y), (3, .int z), (4, .int u), (5, .int v), (6, .int w)] [] σ Q := by
  have er : (-1 : Int32) - w = jI r := by
    rw [ew, show (-1 : Int32) = jI (-1) from rfl, jsub]
    congr 1
    omega
  obtain ⟨n, rfl⟩ : ∃ n : Nat, r = (n : Int) := ⟨r.toNat, by omega⟩
  refine wX11_act [] 60 ?_
  refine And.intro (fun q => ?_) (fun q => ?_)
  · refine hq σ (fun _ _ => rfl) rfl (fun j => ?_)
    unfold sUp
    rw [if_neg (fun z => by have := z.1; rw [q] at this; exact absurd this (by decide))]
  · have hv1 : v = 1 := by
      rcases hv with h | h
      · exact absurd h q
      · exact h
    refine brlt (n : Int) 0 (fun q => by omega) (fun _ => ?_) (hx := er)
    refine brle 4 (n : Int) (fun q => by omega) (fun _ => ?_) (hy := er)
    refine ldI 4 n rfl ?_ (hi := er)
    refine stI 4 n ?_ (hi := er)
    refine hq _ (fun c hc => by rw [uI_n hc]) rfl (fun j => ?_)
    unfold sUp
    by_cases q2 : j = n
    · subst q2
      rw [uI_at, if_pos ⟨by rw [hv1]; rfl, by omega, by omega⟩]
    · rw [uI_ne (Or.inr q2), if_neg (fun z => q2 (by omega))]
theorem k_act0 {x y z u : Int32} (v : Int32) (hv : v = 0 ∨ v = 1) (h1 : σ.1 1 1 = 0) (hH : HC σ H)
    (hq : ∀ τ : Mm, (∀ c, c ≠ 65 → c ≠ 4 → τ.1 c = σ.1 c) → τ.2 = σ.2 → HC τ H → (∀ j, τ.1 4 j = sUp (σ.1 4) v.toInt 0 j) → Q (some (.int (-1))) τ) : MW l G (d + 2) mX11_act [.ref 0, .int x, .int y, .int z, .int u, .int v] σ Q := by
  refine vX11_act [(55, [0, 1, 2, 3, 4, 5, 6])] 60 ?_
  refine k_save hH (fun τ g1 g2 g3 g4 => ?_)
  refine k_attempt0 (by rw [g1 1 (by decide)]; exact h1) ?_
  refine brlt (-1) 0 (fun _ => ?_) (fun q => by omega)
  refine act55 v 0 hv (by omega) rfl (fun ρ f1 f2 f3 => ?_)
  refine hq ρ (fun c q1 q2 => (f1 c q2).trans (g1 c q1)) (f2.trans g2) (g3.fr (f1 64 (by decide)) (f1 65 (by decide)) (f1 66 (by decide))) (fun j => ?_)
  rw [f3 j]
  unfold sUp
  rw [g1 4 (by decide)]
def aS : List Nat := [2, 4, 63, 64, 65, 66] ++ rS
theorem k_act {x y z u : Int32} (k a b c : Int) (v : Int32) (hv : v = 0 ∨ v = 1) (hK : Kr σ 2 H.W) (hC : CI σ ru) (hB : WB ru H.W) (hH : HC σ H) (hE : H.E < 1000000) (hk : 0 ≤ k ∧ k ≤ 9) (ra : R31 a) (rb : R31 b) (rc : R31 c)
    (hq : ∀ τ : Mm, (∀ c, c ∉ aS → τ.1 c = σ.1 c) → τ.2 = σ.2 → (∀ k, 7 ≤ k → τ.1 64 k = σ.1 64 k) → Kr τ 2 (hAct ru H k a b c).W → CI τ ru → HC τ (hAct ru H k a b c) → (∀ j, τ.1 4 j = sUp (σ.1 4) v.toInt (wOut ru H.W k a b c).1 j) → Q (some (.int (jI (kAns ru H.W k a b c)))) τ)
    (ex : x = jI k := by first | rfl | assumption | (simp only [jlit, jneg, jadd, jsub, jmul]; done) | (simp only [jlit, jneg, jadd, jsub, jmul]; congr 1 <;> omega) | (congr 1 <;> omega)) (ey : y = jI a := by first | rfl | assumption | (simp only [jlit, jneg, jadd, jsub, jmul]; done) | (simp only [jlit, jneg, jadd, jsub, jmul]; congr 1 <;> omega) | (congr 1 <;> omega)) (ez : z = jI b := by first | rfl | assumption | (simp only [jlit, jneg, jadd, jsub, jmul]; done) | (simp only [jlit, jneg, jadd, jsub, jmul]; congr 1 <;> omega) | (congr 1 <;> omega)) (eu : u = jI c := by first | rfl | assumption | (simp only [jlit, jneg, jadd, jsub, jmul]; done) | (simp only [jlit, jneg, jadd, jsub, jmul]; congr 1 <;> omega) | (congr 1 <;> omega)) : MW l G (d + 7) mX11_act [.ref 0, .int x, .int y, .int z, .int u, .int v] σ Q := by
  have hr := hC.1.1
  have ho := wOut_in ru H.W k a b c
  have hcm := wOut_came hr hB k a b c
  refine vX11_act [(55, [0, 1, 2, 3, 4, 5, 6])] 60 ?_
  refine k_save hH (fun τ g1 g2 g3 g4 => ?_)
  have hS := g4 _ hK
  have cif : ∀ {ρ ρ' : Mm}, CI ρ ru → (∀ c, c ≠ 4 → c ≠ 64 → c ≠ 65 → c ≠ 66 → ρ'.1 c = ρ.1 c) → CI ρ' ru := by
    intro ρ ρ' h e
    refine h.frS (e 1 (by decide) (by decide) (by decide) (by decide)) (fun c hc => e c ?_ ?_ ?_ ?_)
    all_goals
      rintro rfl
      exact absurd hc (by decide)
  have hC1 : CI τ ru := cif hC (fun c _ _ q _ => g1 c q)
  refine k_attempt k a b c (hK.fr (g1 2 (by decide))) hC1 hB hk ra rb rc (fun τ2 m1 m2 m3 m4 m5 => ?_)
  have e64 : τ2.1 64 = τ.1 64 := m1 64 (by decide) (by decide) (by decide)
  have e65 : τ2.1 65 = τ.1 65 := m1 65 (by decide) (by decide) (by decide)
  have e66 : τ2.1 66 = τ.1 66 := m1 66 (by decide) (by decide) (by decide)
  have fr2 : ∀ c, c ∉ aS → τ2.1 c = σ.1 c := by
    intro c q
    unfold aS at q
    simp only [List.mem_append, List.mem_cons, List.not_mem_nil, or_false, not_or] at q
    rw [m1 c (by omega) (by omega) q.2, g1 c (by omega)]
  have e4 : τ2.1 4 = σ.1 4 := by rw [m1 4 (by decide) (by decide) (by decide), g1 4 (by decide)]
  have h2 : HC τ2 H := g3.fr e64 e65 e66
  by_cases hy : (wOut ru H.W k a b c).1 = -1
  · have hc := hcm hy
    rw [if_pos hy]
    refine brlt (wOut ru H.W k a b c).2.1 0 (fun q => by omega) (fun _ => ?_)
    refine ldI 115 6 (show τ2.1 2 6 = jI ((wOut ru H.W k a b c).2.2.2.f 7) from m4.1 6 (by omega)) ?_
    have hS2 : HS τ2 H.W := by unfold HS at hS ⊢; rw [e64, e65]; exact hS
    refine k_enter h2 hS2 hE (wOut ru H.W k a b c).2.2.2 (fun τ3 p1 p2 p3 p4 => ?_)
    have eA : hAct ru H k a b c = hDo H (wOut ru H.W k a b c).2.2.2 k (wOut ru H.W k a b c).2.2.1 := by unfold hAct; rw [if_pos hy]
    have eN : kAns ru H.W k a b c = (wOut ru H.W k a b c).2.1 := by unfold kAns; rw [if_pos hy]
    rw [eA, eN] at hq
    rw [ex, m5 hy] at p4
    refine hq τ3 (fun c q => ?_) (p2.trans (m2.trans g2)) (fun k hk => by rw [p3 k hk, e64, g1 64 (by decide)]) (m4.fr (p1 2 (by decide) (by decide))) ?_ p4 (fun j => ?_)
    · rw [← fr2 c q]
      unfold aS at q
      simp only [List.mem_append, List.mem_cons, List.not_mem_nil, or_false, not_or] at q
      exact p1 c (by omega) (by omega)
    · exact cif m3 (fun c _ q1 _ q2 => p1 c q1 q2)
    · rw [p1 4 (by decide) (by decide), e4]
      unfold sUp
      rw [if_neg (fun z => z.2.1 hy)]
  · rw [if_neg hy]
    refine brlt (-1 - (wOut ru H.W k a b c).1) 0 (fun _ => ?_) (fun q => by omega)
    refine act55 v (wOut ru H.W k a b c).1 hv (by omega) rfl (fun ρ f1 f2 f3 => ?_)
    have eA : hAct ru H k a b c = H := by unfold hAct; rw [if_neg hy]
    have eN : kAns ru H.W k a b c = -1 := by unfold kAns; rw [if_neg hy]
    rw [eA, eN] at hq
    rw [ho.2.2 hy] at m4
    refine hq ρ (fun c q => ?_) (f2.trans (m2.trans g2)) (fun k hk => by rw [f1 64 (by decide), e64, g1 64 (by decide)]) (m4.fr (f1 2 (by decide))) ?_ (h2.fr (f1 64 (by decide)) (f1 65 (by decide)) (f1 66 (by decide))) (fun j => ?_)
    · rw [← fr2 c q]
      refine f1 c (fun z => q (by rw [z]; decide))
    · exact cif m3 (fun c q _ _ _ => f1 c q)
    · rw [f3 j]
      unfold sUp
      rw [e4]
end KAc
