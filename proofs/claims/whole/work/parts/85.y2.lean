-- acts by draws: the reference
def FY (σ τ : Mm) : Prop := (∀ a, a ∉ [98, 108, 109, 111, 112, 113, 114] → τ.1 a = σ.1 a) ∧ (∀ a, a ∉ [98, 112, 113, 114, 117] → τ.2 a = σ.2 a) ∧ (∀ k, k ∉ [24, 25, 33, 34] → τ.1 98 k = σ.1 98 k)
theorem FY.rf {σ : Mm} : FY σ σ := ⟨fun _ _ => rfl, fun _ _ => rfl, fun _ _ => rfl⟩
theorem FY.tr {σ τ ρ : Mm} (h : FY σ τ) (g : FY τ ρ) : FY σ ρ := ⟨fun a q => (g.1 a q).trans (h.1 a q), fun a q => (g.2.1 a q).trans (h.2.1 a q), fun a q => (g.2.2 a q).trans (h.2.2 a q)⟩
theorem FT.y {σ τ : Mm} (h : FT σ τ) : FY σ τ := ⟨h.1, fun a q => h.2.1 a (by
  simp only [List.mem_cons, List.not_mem_nil, or_false, not_or] at q ⊢
  omega), h.2.2⟩
theorem FY.x {σ τ : Mm} {v : Int64} (h : FY σ τ) : FY σ (uJ τ 98 36 v) := ⟨h.1, fun a q => by
  rw [uJ_n (fun z => q (by rw [z]; simp))]
  exact h.2.1 a q, h.2.2⟩
theorem dPick_in (ru : Nat → Int) (x : Int64) : (0 ≤ (dPick ru x).1 ∧ (dPick ru x).1 ≤ 9) ∧ (0 ≤ (dPick ru x).2.1 ∧ (dPick ru x).2.1 ≤ 1000) ∧ (0 ≤ (dPick ru x).2.2.1 ∧ (dPick ru x).2.2.1 ≤ 1000) ∧ (0 ≤ (dPick ru x).2.2.2.1 ∧ (dPick ru x).2.2.2.1 ≤ 1000) := by
  have a3 := dV_in (dX x) 3 (by omega)
  have a12 := dV_in (dX x) 12 (by omega)
  have b1 := dV_in (dX (dX x)) 1000 (by omega)
  have b12 := dV_in (dX (dX x)) 12 (by omega)
  have c2 := dV_in (dX (dX (dX x))) 200 (by omega)
  unfold dPick
  split
  · refine ⟨?_, ?_, ?_, ?_⟩
    · show 0 ≤ (if dV (dX x) 100 < ru 6 then 0 else 1 : Int) ∧ (if dV (dX x) 100 < ru 6 then 0 else 1 : Int) ≤ 9
      split <;> omega
    all_goals (show (0 : Int) ≤ 0 ∧ (0 : Int) ≤ 1000; omega)
  · split
    · exact ⟨show (0 : Int) ≤ 7 ∧ (7 : Int) ≤ 9 by omega, show (0 : Int) ≤ 0 ∧ (0 : Int) ≤ 1000 by omega, show (0 : Int) ≤ 0 ∧ (0 : Int) ≤ 1000 by omega, show (0 : Int) ≤ 0 ∧ (0 : Int) ≤ 1000 by omega⟩
    · split
      · exact ⟨show (0 : Int) ≤ 2 + dV (dX x) 3 ∧ 2 + dV (dX x) 3 ≤ 9 by omega, show (0 : Int) ≤ 0 ∧ (0 : Int) ≤ 1000 by omega, show (0 : Int) ≤ 0 ∧ (0 : Int) ≤ 1000 by omega, show (0 : Int) ≤ 0 ∧ (0 : Int) ≤ 1000 by omega⟩
      · split
        · exact ⟨show (0 : Int) ≤ 5 ∧ (5 : Int) ≤ 9 by omega, show (0 : Int) ≤ dV (dX x) 12 + 1 ∧ dV (dX x) 12 + 1 ≤ 1000 by omega, show (0 : Int) ≤ dV (dX (dX x)) 1000 ∧ dV (dX (dX x)) 1000 ≤ 1000 by omega, show (0 : Int) ≤ 0 ∧ (0 : Int) ≤ 1000 by omega⟩
        · exact ⟨show (0 : Int) ≤ 6 ∧ (6 : Int) ≤ 9 by omega, show (0 : Int) ≤ dV (dX x) 12 ∧ dV (dX x) 12 ≤ 1000 by omega, show (0 : Int) ≤ dV (dX (dX x)) 12 ∧ dV (dX (dX x)) 12 ≤ 1000 by omega, show (0 : Int) ≤ dV (dX (dX (dX x))) 200 ∧ dV (dX (dX (dX x))) 200 ≤ 1000 by omega⟩
theorem HM.fr {σ τ : Mm} {ru : Nat → Int} {H : Hs} (h : HM σ ru H) (e : τ.1 = σ.1) : HM τ ru H := by
  obtain ⟨h1, F, h2⟩ := h
  exact ⟨by rw [e]; exact h1, F, h2.fr (by rw [e]) (by rw [e]) (by rw [e]) (fun _ _ _ _ => rfl)⟩
section MHp
variable {l : Launch} {G : GT} {d : Nat} {σ : Mm} {Q : Po} {ru : Nat → Int} {H : Hs}
theorem c_happens (x : Int64) (hx : σ.2 98 36 = x) (hI : σ.1 98 17 = 1) (hE : ME σ ru) (hH : HM σ ru H) (hs : σ.1 98 27 = 0) (hB : WB ru H.W)
    (hq : ∀ τ v, FY σ τ → HM τ ru (hPick ru H x) → τ.2 98 36 = (dPick ru x).2.2.2.2 → Q (some (.int v)) τ) : MW l G (d + 13) mX12_happens [.ref 98] σ Q := by
  have hr := hE.1
  have hr' := hr
  unfold RB at hr'
  have v8 := dV_in x 8 (by omega)
  have v100 := dV_in (dX x) 100 (by omega)
  have a3 := dV_in (dX x) 3 (by omega)
  have a12 := dV_in (dX x) 12 (by omega)
  have b1 := dV_in (dX (dX x)) 1000 (by omega)
  have b12 := dV_in (dX (dX x)) 12 (by omega)
  have c2 := dV_in (dX (dX (dX x))) 200 (by omega)
  -- the memory behind some draws
  have tr : ∀ (ρ : Mm) (k a b c : Int) (x' : Int64) (x1 y1 z1 u1 : Int32), dPick ru x = (k, a, b, c, x') → ρ.1 = σ.1 → FY σ ρ → ρ.2 98 36 = x' → x1 = jI k → y1 = jI a → z1 = jI b → u1 = jI c → ∀ Q' : Po, (∀ v τ, Q (some (.int v)) τ → Q' (some (.int v)) τ) → MW l G (d + 12) mX12_tries [.ref 98, .int x1, .int y1, .int z1, .int u1] ρ Q' := by
    intro ρ k a b c x' x1 y1 z1 u1 ep e1 fy ex ek ea eb ec Q' hQ'
    have hp := dPick_in ru x
    rw [ep] at hp
    obtain ⟨p1, p2, p3, p4⟩ := hp
    dsimp only at p1 p2 p3 p4
    refine c_tries k a b c (by rw [e1]; exact hI) (hE.fr (by rw [e1])) (hH.fr e1) (by rw [e1]; exact hs) hB p1 (by omega) (by omega) (by omega) (fun τ t1 t2 t3 => hQ' _ _ (hq τ _ (fy.tr t1.y) ?_ ?_)) ek ea eb ec
    · unfold hPick
      rw [ep]
      exact t2
    · rw [ep]
      show τ.2 98 36 = x'
      rw [t1.2.1 98 (by decide)]
      exact ex
  have s1 : ∀ ρ : Mm, ∀ v, (uJ ρ 98 36 v).2 98 36 = v := fun ρ v => by rw [uJ_s, updL_s]
  refine vX12_happens [] 120 ?_
  refine c_draw 8 (by omega) ?_
  rw [hx]
  have f1 : FY σ (uJ σ 98 36 (dX x)) := FY.rf.x
  have x1 := s1 σ (dX x)
  refine brle 3 (dV x 8) (fun q0 => ?_) (fun q0 => ?_)
  · refine breq (dV x 8) 3 (fun q1 => ?_) (fun q1 => ?_)
    · refine tr (uJ σ 98 36 (dX x)) 7 0 0 0 (dX x) _ _ _ _ ?_ rfl f1 x1 rfl rfl rfl rfl _ (fun v τ h => h)
      unfold dPick
      rw [if_neg (by omega), if_pos q1]
    · refine breq (dV x 8) 4 (fun q2 => ?_) (fun q2 => ?_)
      · refine c_draw 3 (by omega) ?_
        rw [x1]
        refine tr (uJ (uJ σ 98 36 (dX x)) 98 36 (dX (dX x))) (2 + dV (dX x) 3) 0 0 0 (dX (dX x)) _ _ _ _ ?_ rfl f1.x (s1 _ _) (by first | rfl | assumption | (simp only [jlit, jneg, jadd, jsub, jmul]; done) | (simp only [jlit, jneg, jadd, jsub, jmul]; congr 1 <;> omega) | (congr 1 <;> omega)) rfl rfl rfl _ (fun v τ h => h)
        unfold dPick
        rw [if_neg (by omega), if_neg q1, if_pos q2]
      · refine breq (dV x 8) 5 (fun q3 => ?_) (fun q3 => ?_)
        · refine c_draw 12 (by omega) ?_
          rw [x1]
          refine c_draw 1000 (by omega) ?_
          rw [s1]
          refine tr (uJ (uJ (uJ σ 98 36 (dX x)) 98 36 (dX (dX x))) 98 36 (dX (dX (dX x)))) 5 (dV (dX x) 12 + 1) (dV (dX (dX x)) 1000) 0 (dX (dX (dX x))) _ _ _ _ ?_ rfl f1.x.x (s1 _ _) rfl (by first | rfl | assumption | (simp only [jlit, jneg, jadd, jsub, jmul]; done) | (simp only [jlit, jneg, jadd, jsub, jmul]; congr 1 <;> omega) | (congr 1 <;> omega)) rfl rfl _ (fun v τ h => h)
          unfold dPick
          rw [if_neg (by omega), if_neg q1, if_neg q2, if_pos q3]
        · refine c_draw 12 (by omega) ?_
          rw [x1]
          refine c_draw 12 (by omega) ?_
          rw [s1]
          refine c_draw 200 (by omega) ?_
          rw [s1]
          refine tr (uJ (uJ (uJ (uJ σ 98 36 (dX x)) 98 36 (dX (dX x))) 98 36 (dX (dX (dX x)))) 98 36 (dX (dX (dX (dX x))))) 6 (dV (dX x) 12) (dV (dX (dX x)) 12) (dV (dX (dX (dX x))) 200) (dX (dX (dX (dX x)))) _ _ _ _ ?_ rfl f1.x.x.x (s1 _ _) rfl rfl rfl rfl _ (fun v τ h => h)
          unfold dPick
          rw [if_neg (by omega), if_neg q1, if_neg q2, if_neg q3]
  · refine c_draw 100 (by omega) ?_
    rw [x1]
    refine ldI 14 6 (show _ = jI (ru 6) from hE.2 6 (by omega)) ?_
    refine brle (ru 6) (dV (dX x) 100) (fun q => ?_) (fun q => ?_)
    · refine tr (uJ (uJ σ 98 36 (dX x)) 98 36 (dX (dX x))) 1 0 0 0 (dX (dX x)) _ _ _ _ ?_ rfl f1.x (s1 _ _) rfl rfl rfl rfl _ (fun v τ h => h)
      unfold dPick
      rw [if_pos (by omega), if_neg (by omega)]
    · refine tr (uJ (uJ σ 98 36 (dX x)) 98 36 (dX (dX x))) 0 0 0 0 (dX (dX x)) _ _ _ _ ?_ rfl f1.x (s1 _ _) rfl rfl rfl rfl _ (fun v τ h => h)
      unfold dPick
      rw [if_pos (by omega), if_pos (by omega)]
end MHp
