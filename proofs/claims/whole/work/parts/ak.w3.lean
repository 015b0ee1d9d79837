-- walks, way: the reference
theorem wPass_v (ru : Nat → Int) (U : Wk) (up : Int) : (wPass ru U up).f 0 = U.f 0 + 1 ∧ (wPass ru U up).f 1 = U.f 1 + up ∧ (((wPass ru U up).f 11 = U.f 11 ∧ (wPass ru U up).f 3 = U.f 3 ∧ (wPass ru U up).f 2 = U.f 2) ∨ ((wPass ru U up).f 11 = U.f 11 + 1 ∧ (wPass ru U up).f 3 = U.f 3 - 1 ∧ (wPass ru U up).f 2 = zcp ru U.ra (U.f 0 + 1).toNat (U.f 1 + up).toNat)) := by
  have h2 : (wPass2 ru (wPass1 ru U up)).f 0 = U.f 0 + 1 ∧ (wPass2 ru (wPass1 ru U up)).f 1 = U.f 1 + up ∧ (((wPass2 ru (wPass1 ru U up)).f 11 = U.f 11 ∧ (wPass2 ru (wPass1 ru U up)).f 3 = U.f 3 ∧ (wPass2 ru (wPass1 ru U up)).f 2 = U.f 2) ∨ ((wPass2 ru (wPass1 ru U up)).f 11 = U.f 11 + 1 ∧ (wPass2 ru (wPass1 ru U up)).f 3 = U.f 3 - 1 ∧ (wPass2 ru (wPass1 ru U up)).f 2 = zcp ru U.ra (U.f 0 + 1).toNat (U.f 1 + up).toNat)) := by
    unfold wPass2
    split
    · exact ⟨rfl, rfl, Or.inl ⟨rfl, rfl, rfl⟩⟩
    · split
      · by_cases q : U.f 4 = 1
        · have z := wRun_1 (ru := ru) (V := (wPass1 ru U up).put 5 ((wPass1 ru U up).f 5 - 1)) (show U.f 4 = 1 from q)
          exact ⟨z.2.1, z.2.2.1, Or.inl ⟨z.2.2.2.2.1, z.2.2.2.2.2.2.1, z.2.2.2.2.2.2.2⟩⟩
        · have z := wRun_0 (ru := ru) (V := (wPass1 ru U up).put 5 ((wPass1 ru U up).f 5 - 1)) (show U.f 4 ≠ 1 from q)
          exact ⟨z.2.1, z.2.2.1, Or.inr ⟨z.2.2.2.2.1, z.2.2.2.2.2.2.1, z.2.2.2.2.2.2.2⟩⟩
      · exact ⟨rfl, rfl, Or.inl ⟨rfl, rfl, rfl⟩⟩
  unfold wPass
  split
  · exact h2
  · exact h2
theorem wGive_11 (ru : Nat → Int) (V : Wk) (ki : Int) : (wGive ru V ki).f 11 + (wGive ru V ki).f 3 = V.f 11 + V.f 3 ∧ (wGive ru V ki).f 0 = V.f 0 ∧ (wGive ru V ki).f 1 = V.f 1 := by
  by_cases q : ru 10 = 0
  · unfold wGive
    rw [if_pos q]
    by_cases k : ki = 1
    · have z := wRun_1 (ru := ru) (V := (V.put 4 ki).put 5 (ru 10)) (show ki = 1 from k)
      refine ⟨?_, z.2.1, z.2.2.1⟩
      rw [z.2.2.2.2.1, z.2.2.2.2.2.2.1]
      rfl
    · have z := wRun_0 (ru := ru) (V := (V.put 4 ki).put 5 (ru 10)) (show ki ≠ 1 from k)
      refine ⟨?_, z.2.1, z.2.2.1⟩
      rw [z.2.2.2.2.1, z.2.2.2.2.2.2.1]
      show V.f 11 + 1 + (V.f 3 - 1) = V.f 11 + V.f 3
      omega
  · have z := wGive_n (ru := ru) (V := V) (ki := ki) q
    exact ⟨by rw [z.2.2.2.2.2.2.2.2, z.2.2.2.2.2.1], z.2.2.1, z.2.2.2.1⟩
theorem wkA_11 (ru : Nat → Int) : ∀ (n : Nat) (V : Wk), (wkA ru n V).f 11 + (wkA ru n V).f 3 = V.f 11 + V.f 3 ∧ (wkA ru n V).f 0 = V.f 0 ∧ (wkA ru n V).f 1 = V.f 1
  | 0, V => ⟨rfl, rfl, rfl⟩
  | n + 1, V => by
    show (if V.f 6 = 0 ∧ V.f 4 = 0 ∧ wBest ru V V.t V.h ≠ 0 then wkA ru n (wGive ru V (wBest ru V V.t V.h)) else V).f 11 + (if V.f 6 = 0 ∧ V.f 4 = 0 ∧ wBest ru V V.t V.h ≠ 0 then wkA ru n (wGive ru V (wBest ru V V.t V.h)) else V).f 3 = V.f 11 + V.f 3 ∧ (if V.f 6 = 0 ∧ V.f 4 = 0 ∧ wBest ru V V.t V.h ≠ 0 then wkA ru n (wGive ru V (wBest ru V V.t V.h)) else V).f 0 = V.f 0 ∧ (if V.f 6 = 0 ∧ V.f 4 = 0 ∧ wBest ru V V.t V.h ≠ 0 then wkA ru n (wGive ru V (wBest ru V V.t V.h)) else V).f 1 = V.f 1
    split
    · have ih := wkA_11 ru n (wGive ru V (wBest ru V V.t V.h))
      have g := wGive_11 ru V (wBest ru V V.t V.h)
      exact ⟨ih.1.trans g.1, ih.2.1.trans g.2.1, ih.2.2.trans g.2.2⟩
    · exact ⟨rfl, rfl, rfl⟩
theorem wkN_stop {ru : Nat → Int} {b : Nat → Int} {V : Wk} (n k : Nat) (h : V.f 6 ≠ 0) : wkN ru b n k V = V := by
  cases n with
  | zero => rfl
  | succ n => show (if V.f 6 = 0 then _ else V) = V; rw [if_neg h]
section MWb
variable {l : Launch} {G : GT} {d : Nat} {σ : Mm} {Q : Po} {ru : Nat → Int} {W : Wk}
theorem c_walks {x : Int32} (hE : ME σ ru) (hs : σ.1 98 27 = 0) (hL : LY σ ru W.am) (hG : GW σ ru W) (hT0 : TB σ 115 ru W.r 0 0 (zco ru W.am W.ra none W.r (W.f 2))) (hW : WB ru W) (hM : Mr σ ru 108 W) (h6 : W.f 6 = 0)
    (hq : ∀ τ, FW σ τ → Mr τ ru 118 (wkE ru W (btI x)) → Q none τ) : MW l G (d + 9) mX12_walks [.ref 98, .int x] σ Q := by
  have hr := hE.1
  have hr' := hr
  unfold RB at hr'
  have hvW := V_t hW
  have key : ∀ (n k : Nat) (U : Wk) (τ : Mm) (c : Nat) (u : Int32), k + n = 12 → u = jI (k : Int) → FW σ τ → Mr τ ru 118 U → WB ru U → U.2 = W.2 → U.r ≤ W.r → U.f 11 + U.f 3 = W.f 3 → RT τ ru U c → (U.f 6 = 0 → ru 1 - U.f 0 ≤ n) → wkE ru W (btI x) = wkN ru (btI x) n k U → Wp l G (d + 9) mX12_walks 54 [(0, .ref 98), (1, .int x), (2, .int u)] [] τ Q := by
    intro n
    induction n with
    | zero =>
      intro k U τ c u hk hu F hU hBU hU2 hUr h11 hRU hn he
      have z6 : U.f 6 ≠ 0 := fun z => by
        have a := hn z
        have b := hBU.2.2.2.2.2.1 z
        omega
      have b6 := hBU.2.2.2.2.1
      refine wX12_walks [] 60 ?_
      refine ldI 494 6 (hU.1 6 (by omega)) ?_ (hi := rfl)
      refine breq (U.f 6) 0 (fun q => absurd q z6) (fun _ => ?_) (hx := rfl) (hy := rfl)
      exact hq τ F (by rw [he]; exact hU)
    | succ n ih =>
      intro k U τ c u hk hu F hU hBU hU2 hUr h11 hRU hn he
      have b6 := hBU.2.2.2.2.1
      refine wX12_walks [(54, [0, 1, 2]), (127, [0, 1, 2])] 80 ?_
      refine ldI 494 6 (hU.1 6 (by omega)) ?_ (hi := rfl)
      refine breq (U.f 6) 0 (fun z6 => ?_) (fun z6 => ?_) (hx := rfl) (hy := rfl)
      · have hv := V_t hBU
        have hT := hBU.2.2.2.2.2.1 z6
        have hE1 : ME τ ru := hE.fr (F.1 101 (by decide) (by decide))
        have hs1 : τ.1 98 27 = 0 := by rw [F.2.2 27 (by decide) (by decide)]; exact hs
        have hL1 : LY τ ru W.am := hL.fr (F.1 112 (by decide) (by decide)) (F.1 113 (by decide) (by decide)) (F.1 114 (by decide) (by decide))
        have hG1 := hG.fr F.2.1
        have ea : U.am = W.am := by unfold Wk.am; rw [hU2]
        have er : U.ra = W.ra := by unfold Wk.ra; rw [hU2]
        have bt := btI_in x k
        obtain ⟨b1, b2, b3, b4, b5, b66, b7, b8⟩ := hBU
        have hBU : WB ru U := ⟨b1, b2, b3, b4, b5, b66, b7, b8⟩
        have es : wkN ru (btI x) (n + 1) k U = if U.f 6 = 0 then wkN ru (btI x) n (k + 1) (wkA ru 3 (wPass ru U (btI x k))) else U := rfl
        rw [if_pos z6] at es
        refine ldI 494 11 (hU.1 11 (by omega)) ?_ (hi := rfl)
        refine brle 31 (k : Int) (fun z => by omega) (fun _ => ?_) (hx := rfl) (hy := hu)
        refine c_passes (w := 118) U.t U.h (btI x k) (Or.inr (Or.inr rfl)) hE1 hU hs1 (by rw [ea]; exact hL1) hv.1.symm hv.2.1.symm (by omega) hv.2.2.1 bt b2 b4 (fun z => by have := b7 z; omega) (fun ρ f1 f2 f3 => ?_) (by rw [hu]; unfold btI; exact (jI_of _).symm)
        have F1 := F.tr (FW.fz f1)
        have hB' := WB_pass hr hBU z6 (btI x k) bt
        have hv' := V_t hB'
        have pv := wPass_v ru U (btI x k)
        obtain ⟨P, hP⟩ : ∃ P, P = wPass ru U (btI x k) := ⟨_, rfl⟩
        have hP2 : P.2 = W.2 := by rw [hP, wPass_2]; exact hU2
        rw [← hP] at f3 hB' hv' pv es
        have hG2 := hG.fr F1.2.1
        have go : ∀ (π : Mm) (c' : Nat), FW σ π → Mr π ru 118 P → P.r ≤ W.r → P.f 11 + P.f 3 = W.f 3 → RT π ru P c' → Wp l G (d + 9) mX12_walks 127 [(0, .ref 98), (1, .int x), (2, .int u)] [] π Q := by
          intro π c' Fp hPM hPr hP11 hRP
          have hE2 : ME π ru := hE.fr (Fp.1 101 (by decide) (by decide))
          have hs2 : π.1 98 27 = 0 := by rw [Fp.2.2 27 (by decide) (by decide)]; exact hs
          have hL2 : LY π ru W.am := hL.fr (Fp.1 112 (by decide) (by decide)) (Fp.1 113 (by decide) (by decide)) (Fp.1 114 (by decide) (by decide))
          refine wX12_walks [(54, [0, 1, 2])] 40 ?_
          refine c_walkActs hE2 hs2 hL2 (hG.fr Fp.2.1) hW hPM hB' hP2 hPr hRP (fun θ g1 g2 g3 g4 => ?_)
          obtain ⟨c2, g4⟩ := g4
          have a := wkA_WB hr 3 P hB'
          have a11 := wkA_11 ru 3 P
          refine ih (k + 1) (wkA ru 3 P) θ c2 _ (by omega) (by rw [hu]; simp only [jlit, jadd]; congr 1) (Fp.tr g1) g2 a.1 (a.2.trans hP2) g3 (a11.1.trans hP11) g4 (fun z => ?_) (he.trans es)
          by_cases zP : P.f 6 = 0
          · have := hn z6
            rw [a11.2.1, pv.1]
            omega
          · rw [wkA_stop 3 (fun q => zP q.1)] at z
            exact absurd z zP
        have e11 : ρ.1 118 11 = jI (P.f 11) := f3.1 11 (by omega)
        refine ldI 494 11 e11 ?_ (hi := rfl)
        refine brle (P.f 11) (U.f 11) (fun z => ?_) (fun z => ?_) (hx := rfl) (hy := rfl)
        · have A : P.f 11 = U.f 11 ∧ P.f 3 = U.f 3 ∧ P.f 2 = U.f 2 := by
            rcases pv.2.2 with q | q
            · exact q
            · omega
          have e3 : P.r = U.r := by unfold Wk.r; rw [A.2.1]
          refine go ρ c F1 f3 (by omega) (by omega) ⟨by rw [f1.2.2.1 38 (by decide)]; exact hRU.1, fun _ => ⟨(hRU.2 z6).1, fun t h q1 q2 q3 => ?_⟩⟩
          have ea' : P.am = U.am := by unfold Wk.am; rw [hP2, hU2]
          have er' : P.ra = U.ra := by unfold Wk.ra; rw [hP2, hU2]
          rw [ea', er', e3, A.2.2, f1.2.1]
          exact (hRU.2 z6).2 t h (by omega) q2 q3
        · have B : P.f 11 = U.f 11 + 1 ∧ P.f 3 = U.f 3 - 1 ∧ P.f 2 = zcp ru U.ra (U.f 0 + 1).toNat (U.f 1 + btI x k).toNat := by
            rcases pv.2.2 with q | q
            · omega
            · exact q
          refine ldI 494 0 (show _ = jI (P.t : Int) by rw [f3.1 0 (by omega), hv'.1]) ?_ (hi := rfl)
          refine ldI 494 1 (show _ = jI (P.h : Int) by rw [f3.1 1 (by omega), hv'.2.1]) ?_ (hi := rfl)
          refine c_node (P.t : Int) (P.h : Int) ?_ rfl rfl
          refine go _ (12 * P.t + P.h + 1) F1.by (f3.fr (fun k _ => by rw [uI_n (by decide)]) hr) (by omega) (by omega) ?_
          refine RT_new hr hW hB' hP2 (hG2.fr rfl) (by omega) ?_ rfl (by rw [uI_at]; simp only [jlit, jadd]; congr 1)
          rw [B.2.2, er, ← pv.1, ← pv.2.1]
          rfl
      · have es : wkN ru (btI x) (n + 1) k U = U := wkN_stop (n + 1) k z6
        exact hq τ F (by rw [he, es]; exact hU)
  refine vX12_walks [(54, [0, 1, 2])] 80 ?_
  refine c_copyRow (a := 108) (b := 118) 0 0 (by decide) (by decide) (by decide) (by decide) (by decide) (fun τ k1 k2 k3 => ?_) rfl rfl
  have R2 : Mr τ ru 118 W := by
    obtain ⟨m1, m2, m3, m4⟩ := hM
    have e : ∀ j, j < 494 → τ.1 118 j = σ.1 108 j := fun j hj => by rw [k3 j, if_pos (by omega), show 0 + (j - 0) = j by omega]
    refine ⟨fun k hk => by rw [e k (by omega)]; exact m1 k hk, fun j hj => by rw [e _ (by omega)]; exact m2 j hj, fun t h q1 q2 => ?_, fun t h q1 q2 => ?_⟩
    · rw [e _ (by omega)]; exact m3 t h q1 q2
    · rw [e _ (by omega)]; exact m4 t h q1 q2
  refine stI 494 4 ?_ (hi := rfl)
  refine stI 494 5 ?_ (hi := rfl)
  refine stI 494 7 ?_ (hi := rfl)
  refine stI 494 11 ?_ (hi := rfl)
  obtain ⟨ρ, hρ⟩ : ∃ ρ, ρ = uI (uI (uI (uI (uI τ 118 4 0) 118 5 0) 118 7 0) 118 11 0) 98 38 0 := ⟨_, rfl⟩
  have Mρ : Mr ρ ru 118 (wk0 W) := by
    rw [hρ]
    exact ((((R2.put 4 0 (v := 0) (hv := rfl)).put 5 0 (v := 0) (hv := rfl)).put 7 0 (v := 0) (hv := rfl)).put 11 0 (v := 0) (hv := rfl)).fr (fun k _ => by rw [uI_n (by decide)]) hr
  have Fρ : FW σ ρ := by
    refine ⟨fun a h1 h2 => ?_, by rw [hρ]; exact k1, fun k h1 h2 => ?_⟩
    · rw [hρ, uI_n h1, uI_n h2, uI_n h2, uI_n h2, uI_n h2, k2 a h2]
    · rw [hρ, uI_ne (Or.inr h2), uI_n (by decide), uI_n (by decide), uI_n (by decide), uI_n (by decide), k2 98 (by decide)]
  have R0 : RT ρ ru (wk0 W) 0 := by
    refine ⟨by rw [hρ, uI_at]; rfl, fun _ => ⟨by omega, fun t h q1 q2 q3 => ?_⟩⟩
    rw [Fρ.2.1]
    exact hT0 t h (by omega) q2 q3
  have hE2 : ME ρ ru := hE.fr (Fρ.1 101 (by decide) (by decide))
  have hs2 : ρ.1 98 27 = 0 := by rw [Fρ.2.2 27 (by decide) (by decide)]; exact hs
  have hL2 : LY ρ ru W.am := hL.fr (Fρ.1 112 (by decide) (by decide)) (Fρ.1 113 (by decide) (by decide)) (Fρ.1 114 (by decide) (by decide))
  subst hρ
  refine c_walkActs (W := W) hE2 hs2 hL2 (hG.fr Fρ.2.1) hW Mρ (wk0_WB hW) rfl (Nat.le_refl _) R0 (fun θ g1 g2 g3 g4 => ?_)
  obtain ⟨c2, g4⟩ := g4
  have a := wkA_WB hr 3 (wk0 W) (wk0_WB hW)
  have a11 := wkA_11 ru 3 (wk0 W)
  refine key 12 0 (wkA ru 3 (wk0 W)) θ c2 _ (by omega) rfl (Fρ.tr g1) g2 a.1 a.2 g3 (a11.1.trans (by show (0 : Int) + W.f 3 = W.f 3; omega)) g4 (fun _ => ?_) rfl
  rw [a11.2.1]
  show ru 1 - W.f 0 ≤ 12
  omega
theorem c_way {x y : Int32} (m w : Int) (hM : RM σ ru W) (rm : R31 m) (rw' : R31 w) (hq : ∀ τ, Qf σ τ → Q (some (.int (jI (aWay ru W x m w)))) τ) (ex : x = jI m := by first | rfl | assumption | (simp only [jlit, jneg, jadd, jsub, jmul]; done) | (simp only [jlit, jneg, jadd, jsub, jmul]; congr 1 <;> omega) | (congr 1 <;> omega)) (ey : y = jI w := by first | rfl | assumption | (simp only [jlit, jneg, jadd, jsub, jmul]; done) | (simp only [jlit, jneg, jadd, jsub, jmul]; congr 1 <;> omega) | (congr 1 <;> omega)) : MW l G (d + 11) mX12_way [.ref 98, .int x, .int y] σ Q := by
  have f0 : Qf σ (uI σ 98 0 0) := Qf.rf.u8 (by decide)
  have M0 := hM.fr f0
  have hr := hM.2.1.1
  unfold aWay at hq
  refine vX12_way [] 60 ?_
  refine c_over M0 ?_
  refine brz _ (fun q => ?_) (fun q => ?_)
  · have h6 : W.f 6 = 0 := by have := hM.over; omega
    refine brlt m 0 (fun q1 => ?_) (fun q1 => ?_) (hx := ex) (hy := rfl)
    · rw [if_pos (Or.inr (Or.inl q1))] at hq
      exact hq _ f0
    · refine c_isIn w 0 2 ?_ (by rw [ey, jI_L rw']) rfl rfl
      refine brz _ (fun q2 => ?_) (fun q2 => ?_)
      · rw [if_pos (Or.inr (Or.inr q2))] at hq
        exact hq _ f0
      · rw [if_neg (by omega)] at hq
        refine c_laysNowY M0 (fun τ F1 L1 g2 g3 g4 => ?_)
        have F1 := f0.tr F1
        have M1 := hM.fr F1
        refine c_walks (W := W) M1.2.1 M1.2.2.2.1 L1 ⟨g3, g4⟩ g2 M1.2.2.2.2 M1.2.2.1 h6 (fun ρ p1 p2 => ?_)
        have F2 : Qf σ ρ := F1.tr ⟨fun a qa => p1.1 a (fun z => qa (by rw [z]; decide)) (fun z => qa (by rw [z]; decide)), fun a _ => by rw [p1.2.1], fun k qk => p1.2.2 k (fun z => qk (by rw [z]; decide)) (fun z => qk (by rw [z]; decide))⟩
        have hq := hq ρ F2
        refine breq w 0 (fun e0 => ?_) (fun e0 => ?_) (hx := ey) (hy := rfl)
        · rw [if_pos e0] at hq
          exact ldI 494 7 (p2.1 7 (by omega)) hq (hi := rfl)
        · rw [if_neg e0] at hq
          refine breq w 1 (fun e1 => ?_) (fun e1 => ?_) (hx := ey) (hy := rfl)
          · rw [if_pos e1] at hq
            exact ldI 494 11 (p2.1 11 (by omega)) hq (hi := rfl)
          · rw [if_neg e1] at hq
            exact ldI 494 0 (p2.1 0 (by omega)) hq (hi := rfl)
  · rw [if_pos (Or.inl q)] at hq
    exact hq _ f0
end MWb
