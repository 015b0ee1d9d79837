-- giveNotice of the class
section KQ
variable {l : Launch} {G : GT} {d : Nat} {σ : Mm} {Q : Po} {ru : Nat → Int} {W : Wk}
theorem wRun_5 (ru : Nat → Int) (V : Wk) (z : Int) : (∀ k, k < 12 → (wRun ru V).f k = (wRun ru (V.put 5 z)).f k) ∧ (wRun ru V).2 = (wRun ru (V.put 5 z)).2 ∧ wRunC ru V = wRunC ru (V.put 5 z) := by
  unfold wRun wRunC
  by_cases q : V.f 4 = 1
  · have q' : (V.put 5 z).f 4 = 1 := q
    rw [if_pos q, if_pos q', if_pos q, if_pos q']
    exact ⟨fun k hk => by rcases c12 hk with rfl | rfl | rfl | rfl | rfl | rfl | rfl | rfl | rfl | rfl | rfl | rfl <;> rfl, rfl, rfl⟩
  · have q' : ¬ (V.put 5 z).f 4 = 1 := q
    rw [if_neg q, if_neg q', if_neg q, if_neg q']
    exact ⟨fun k hk => by rcases c12 hk with rfl | rfl | rfl | rfl | rfl | rfl | rfl | rfl | rfl | rfl | rfl | rfl <;> rfl, rfl, rfl⟩
theorem k_giveNotice {x : Int32} (t h : Nat) (ki : Int) (hK : Kr σ 2 W) (hR : RC σ ru) (hL : LC σ ru W.am) (hB : WB ru W) (h0 : W.f 0 = t) (h1 : W.f 1 = h) (ht : (t : Int) < ru 1) (hh : h ≤ t) (hki : ki = 1 ∨ ki = 2)
    (hq1 : W.f 4 ≠ 0 → Q (some (.int (jI (-3)))) σ) (hq2 : W.f 4 = 0 → ¬ ki ≤ zla ru (W.f 0) (W.f 3) → Q (some (.int (jI (-4)))) σ) (hq : W.f 4 = 0 → ki ≤ zla ru (W.f 0) (W.f 3) → ∀ τ : Mm, (∀ c, c ≠ 2 → τ.1 c = σ.1 c) → τ.2 = σ.2 → Kr τ 2 (wGive ru W ki) → Q (some (.int (jI (wGiveC ru W ki)))) τ) (ex : x = jI ki := by first | rfl | assumption | (simp only [jlit, jneg, jadd, jsub, jmul]; done) | (simp only [jlit, jneg, jadd, jsub, jmul]; congr 1 <;> omega) | (congr 1 <;> omega)) : MW l G (d + 3) mX3_giveNotice [.ref 63, .int x] σ Q := by
  have hr := hR.1
  have hr' := hr
  unfold RB at hr'
  obtain ⟨b1, bc, b3, b4, b6, b7, b8, t1, t2, t3⟩ := hB
  have hz : 0 ≤ zla ru (W.f 0) (W.f 3) ∧ zla ru (W.f 0) (W.f 3) ≤ 2 := by
    unfold zla
    split
    · split <;> omega
    · omega
  refine vX3_giveNotice [] 80 ?_
  refine ldI 115 4 (hK.1 4 (by omega)) ?_
  refine breq (W.f 4) 0 (fun z4 => ?_) (fun z4 => hq1 z4)
  refine ldI 115 0 (hK.1 0 (by omega)) ?_
  refine ldI 115 3 (hK.1 3 (by omega)) ?_
  refine k_lastAllowed (W.f 0) (W.f 3) hR (by omega) (by omega) ?_ rfl rfl
  refine brle ki (zla ru (W.f 0) (W.f 3)) (fun zl => ?_) (fun zl => hq2 z4 (by omega)) ex
  have hq := hq z4 zl
  unfold wGive wGiveC at hq
  refine ldI 14 10 (hR.2 10 (by omega)) ?_
  refine breq (ru 10) 0 (fun z => ?_) (fun z => ?_)
  · rw [if_pos z, if_pos z] at hq
    obtain ⟨r1, r2, r3⟩ := wRun_5 ru (W.put 4 ki) (ru 10)
    refine k_settleNotice t h ki hK hR hL h0 h1 ht hh hki (t2 t h) (fun τ g1 g2 g3 => ?_) ex
    rw [r3]
    exact hq τ g1 g2 (g3.ex r1 r2)
  · rw [if_neg z, if_neg z] at hq
    have g10 : (uI σ 2 4 x).1 1 10 = jI (ru 10) := by rw [uI_n (show (1 : Nat) ≠ 2 by decide)]; exact hR.2 10 (by omega)
    refine stI 115 4 ?_
    refine ldI 14 10 g10 ?_
    refine stI 115 5 ?_
    exact hq _ (fun c hc => by rw [uI_n hc, uI_n hc]) rfl ((hK.put 4 ki (hv := ex)).put 5 (ru 10))
end KQ
