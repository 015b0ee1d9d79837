-- carryOut of the class
section KY7
variable {l : Launch} {G : GT} {d : Nat} {σ : Mm} {Q : Po} {ru : Nat → Int} {W : Wk}
theorem k_carryOut {x : Int32} (t h : Nat) (dd : Int) (hK : Kr σ 2 W) (hR : RC σ ru) (hL : LC σ ru W.am) (hB : WB ru W) (h0 : W.f 0 = t) (h1 : W.f 1 = h) (ht : (t : Int) < ru 1) (hh : h ≤ t) (hdd : 0 ≤ dd ∧ dd ≤ 2)
    (hq1 : ¬ (dd ≠ 0 ∧ dd ≤ zla ru (W.f 0) (W.f 3) ∧ W.f 4 = 0) → Q (some (.int (jI (-3)))) σ) (hq : dd ≠ 0 → dd ≤ zla ru (W.f 0) (W.f 3) → W.f 4 = 0 → ∀ τ : Mm, (∀ c, c ≠ 2 → c ≠ 63 → τ.1 c = σ.1 c) → τ.2 = σ.2 → τ.1 63 3 = jI (dd + 1) → Kr τ 2 (wGive ru W dd) → Q (some (.int (jI dd))) τ) (ex : x = jI dd := by first | rfl | assumption | (simp only [jlit, jneg, jadd, jsub, jmul]; done) | (simp only [jlit, jneg, jadd, jsub, jmul]; congr 1 <;> omega) | (congr 1 <;> omega)) : MW l G (d + 4) mX3_carryOut [.ref 63, .int x] σ Q := by
  have hr := hR.1
  have hr' := hr
  unfold RB at hr'
  have hB' := hB
  obtain ⟨b1, bc, b3, b4, b6, b7, b8, t1, t2, t3⟩ := hB'
  have hz : 0 ≤ zla ru (W.f 0) (W.f 3) ∧ zla ru (W.f 0) (W.f 3) ≤ 2 := by
    unfold zla
    split
    · split <;> omega
    · omega
  subst ex
  refine vX3_carryOut [] 100 ?_
  refine breq dd 0 (fun z => ?_) (fun z => ?_)
  · refine And.intro (fun _ => ?_) (fun q => absurd rfl q)
    exact hq1 (fun q => q.1 z)
  · refine ldI 115 0 (hK.1 0 (by omega)) ?_
    refine ldI 115 3 (hK.1 3 (by omega)) ?_
    refine k_lastAllowed (W.f 0) (W.f 3) hR (by omega) (by omega) ?_ rfl rfl
    refine brlt (zla ru (W.f 0) (W.f 3)) dd (fun z2 => ?_) (fun z2 => ?_)
    · refine And.intro (fun _ => ?_) (fun q => absurd rfl q)
      exact hq1 (fun q => by omega)
    · refine And.intro (fun q => absurd q (by decide)) (fun _ => ?_)
      refine ldI 115 4 (hK.1 4 (by omega)) ?_
      refine breq (W.f 4) 0 (fun z4 => ?_) (fun z4 => ?_)
      · refine k_giveNotice t h dd hK hR hL hB h0 h1 ht hh (by omega) (fun q => absurd z4 q) (fun _ q => absurd z2 q) (fun _ _ τ g1 g2 g3 => ?_)
        have fin : ∀ v : Int32, v = jI (dd + 1) → Q (some (.int (jI dd))) (uI τ 63 3 v) := fun v hv => hq z z2 z4 _ (fun c q1 q2 => by rw [uI_n q2]; exact g1 c q1) g2 (by rw [uI_at]; exact hv) (g3.fr (uI_n (by decide)))
        refine breq dd 1 (fun z5 => ?_) (fun z5 => ?_)
        · exact fin _ (by rw [z5]; rfl)
        · exact fin _ (by rw [show dd = 2 by omega]; rfl)
      · exact hq1 (fun q => z4 q.2.2)
end KY7
