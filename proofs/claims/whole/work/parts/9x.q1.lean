-- a clause of a policy: the reference
def dcF (T : Tp) (p : Nat) : Nat × Int × (Nat → Int) := itF T 3 (T.n + 1 - (sk T p + 1)) (sk T p + 1) 0 (fun _ => 0)
section MDc
variable {l : Launch} {G : GT} {d : Nat} {σ : Mm} {Q : Po} {T : Tp}
theorem c_deedClause (hG : GX G) (p n : Nat) (hT : TM σ T) (hp : p ≤ T.n) (ha : σ.1 98 3 = jI (p : Int)) (hf : σ.1 98 4 = -1) (hn : n ≤ 24) (hd : σ.1 98 15 = jI (n : Int))
    (hq1 : ¬ (ch T (sk T p) = 112 ∧ n < 24) → ∀ τ : Mm, (∀ c, c ≠ 98 → τ.1 c = σ.1 c) → τ.2 = σ.2 → (∀ k, k ≠ 3 → k ≠ 4 → τ.1 98 k = σ.1 98 k) → τ.1 98 3 = jI (sk T p : Int) → τ.1 98 4 = jI (sk T p : Int) → Q none τ)
    (hq : ch T (sk T p) = 112 ∧ n < 24 → ∀ τ : Mm, (∀ c, c ≠ 98 → c ≠ 104 → τ.1 c = σ.1 c) → τ.2 = σ.2 → (∀ k, k ≠ 3 → k ≠ 4 → k ≠ 15 → k ≠ 18 → k ≠ 19 → τ.1 98 k = σ.1 98 k) → τ.1 98 15 = jI ((n + 1 : Nat) : Int) → τ.1 98 3 = jI ((dcF T p).1 : Int) → τ.1 98 4 = jI (dcF T p).2.1 → (∀ j, j < 3 → τ.1 104 (3 * n + j) = jI ((dcF T p).2.2 j)) → (∀ j, j < 3 * n → τ.1 104 j = σ.1 104 j) → Q none τ) : MW l G (d + 6) mX12_deedClause [.ref 98] σ Q := by
  have h1 := hT.1
  have hk := sk_in hp
  have ci := ch_in T (sk T p)
  have bad : ∀ ρ : Mm, ρ = uI σ 98 3 (jI (sk T p : Int)) → ¬ (ch T (sk T p) = 112 ∧ n < 24) → ∀ Q' : Po, (∀ τ, Q none τ → Q' none τ) → MW l G (d + 5) mX12_fails [.ref 98] ρ Q' := by
    intro ρ hρ hno Q' hQ'
    refine c_fails (jI (sk T p : Int)) (by rw [hρ, uI_at]) (by rw [hρ, uI_ne (Or.inr (by decide))]; exact hf) (hQ' _ ?_)
    exact hq1 hno _ (fun c hc => by rw [uI_n hc, hρ, uI_n hc]) (by rw [hρ]; rfl) (fun k k1 k2 => by rw [uI_ne (Or.inr k2), hρ, uI_ne (Or.inr k1)]) (by rw [uI_ne (Or.inr (by decide)), hρ, uI_at]) (uI_at _ _ _ _)
  have hd1 : (uI σ 98 3 (jI (sk T p : Int))).1 98 15 = jI (n : Int) := by rw [uI_ne (Or.inr (by decide))]; exact hd
  refine vX12_deedClause [] 90 ?_
  refine c_look (T.n - p) p rfl hT hp ha ?_
  refine breq (ch T (sk T p)) 112 (fun z1 => ?_) (fun z1 => ?_) (hx := rfl) (hy := rfl)
  · refine breq (n : Int) 24 (fun z2 => ?_) (fun z2 => ?_) (hx := hd1) (hy := rfl)
    · exact bad _ rfl (by omega) _ (fun τ h => h)
    · have hq := hq ⟨z1, by omega⟩
      have hpn : sk T p < T.n := by
        by_cases q : sk T p < T.n
        · exact q
        · unfold ch at z1
          rw [if_neg q] at z1
          omega
      obtain ⟨σ2, h2⟩ : ∃ σ2, σ2 = uI (uI σ 98 3 (jI (sk T p : Int))) 98 3 ((uI σ 98 3 (jI (sk T p : Int))).1 98 3 + 1) := ⟨_, rfl⟩
      have a3 : σ2.1 98 3 = jI ((sk T p + 1 : Nat) : Int) := by
        rw [h2, uI_at, uI_at]
        simp only [jlit, jadd]
        congr 1
      have ak : ∀ k, k ≠ 3 → σ2.1 98 k = σ.1 98 k := fun k hk => by rw [h2, uI_ne (Or.inr hk), uI_ne (Or.inr hk)]
      have ac : ∀ c, c ≠ 98 → σ2.1 c = σ.1 c := fun c hc => by rw [h2, uI_n hc, uI_n hc]
      have a2 : σ2.2 = σ.2 := by rw [h2]; rfl
      have a15 : σ2.1 98 15 = jI (n : Int) := by rw [ak 15 (by decide)]; exact hd
      have b15 : ∀ (j : Nat) (u : Int32) (ρ : Mm), ρ.1 98 15 = jI (n : Int) → (uI ρ 104 j u).1 98 15 = jI (n : Int) := fun j u ρ h => by rw [uI_n (by decide)]; exact h
      refine brle 3 0 (fun q => by omega) (fun _ => ?_) (hx := rfl) (hy := rfl)
      rw [← h2]
      refine stI 72 (3 * n + 0) ?_ (hi := by rw [a15]; simp only [jlit, jadd, jmul]; congr 1)
      refine brle 3 1 (fun q => by omega) (fun _ => ?_) (hx := rfl) (hy := rfl)
      refine stI 72 (3 * n + 1) ?_ (hi := by rw [b15 _ _ _ a15]; simp only [jlit, jadd, jmul]; congr 1)
      refine brle 3 2 (fun q => by omega) (fun _ => ?_) (hx := rfl) (hy := rfl)
      refine stI 72 (3 * n + 2) ?_ (hi := by rw [b15 _ _ _ (b15 _ _ _ a15)]; simp only [jlit, jadd, jmul]; congr 1)
      refine brle 3 3 (fun _ => ?_) (fun q => by omega) (hx := rfl) (hy := rfl)
      obtain ⟨σ3, h3⟩ : ∃ σ3, σ3 = uI (uI (uI σ2 104 (3 * n + 0) 0) 104 (3 * n + 1) 0) 104 (3 * n + 2) 0 := ⟨_, rfl⟩
      rw [← h3]
      have c98 : σ3.1 98 = σ2.1 98 := by rw [h3, uI_n (by decide), uI_n (by decide), uI_n (by decide)]
      have c15 : σ3.1 98 15 = jI (n : Int) := by rw [c98]; exact a15
      obtain ⟨σ4, h4⟩ : ∃ σ4, σ4 = uI σ3 98 15 (σ3.1 98 15 + 1) := ⟨_, rfl⟩
      have d15 : σ4.1 98 15 = jI ((n + 1 : Nat) : Int) := by
        rw [h4, uI_at, c15]
        simp only [jlit, jadd]
        congr 1
      have dk : ∀ k, k ≠ 15 → σ4.1 98 k = σ2.1 98 k := fun k hk => by rw [h4, uI_ne (Or.inr hk), c98]
      have dc : ∀ c, c ≠ 98 → c ≠ 104 → σ4.1 c = σ.1 c := fun c k1 k2 => by rw [h4, uI_n k1, h3, uI_n k2, uI_n k2, uI_n k2]; exact ac c k1
      have d0 : ∀ j, j < 3 → σ4.1 104 (3 * n + j) = jI 0 := fun j hj => by
        rw [h4, uI_n (by decide), h3]
        by_cases q2 : j = 2
        · rw [q2, uI_at]; rfl
        · rw [uI_ne (Or.inr (by omega))]
          by_cases q1 : j = 1
          · rw [q1, uI_at]; rfl
          · rw [uI_ne (Or.inr (by omega)), show j = 0 by omega, uI_at]; rfl
      have dl : ∀ j, j < 3 * n → σ4.1 104 j = σ.1 104 j := fun j hj => by
        rw [h4, uI_n (by decide), h3, uI_ne (Or.inr (by omega)), uI_ne (Or.inr (by omega)), uI_ne (Or.inr (by omega)), ac 104 (by decide)]
      refine And.intro hG ?_
      rw [← h4]
      refine c_items (R := 104) hG 3 (3 * n) (sk T p + 1) (fun _ => 0) (by omega) (Or.inr (Or.inr (Or.inr rfl))) (by show 3 * n + 3 ≤ 72; omega) (hT.fr ((dk 2 (by decide)).trans (ak 2 (by decide))) (dc 99 (by decide) (by decide))) (by omega) (by rw [dk 3 (by decide)]; exact a3) (by rw [dk 4 (by decide), ak 4 (by decide)]; exact hf) d0 (fun τ p1 p2 p3 p4 p5 p6 p7 => ?_) (ex := by rw [d15]; simp only [jlit, jsub, jmul]; congr 1; omega)
      exact hq τ (fun c k1 k2 => (p1 c k1 k2).trans (dc c k1 k2)) (p2.trans (by rw [h4, h3]; exact a2)) (fun k k1 k2 k3 k4 k5 => by rw [p3 k k1 k2 k4 k5, dk k k3, ak k k1]) (by rw [p3 15 (by decide) (by decide) (by decide) (by decide)]; exact d15) p4 p5 p6 (fun j hj => by rw [p7 j (by omega)]; exact dl j hj)
  · exact bad _ rfl (fun q => z1 q.1) _ (fun τ h => h)
end MDc
