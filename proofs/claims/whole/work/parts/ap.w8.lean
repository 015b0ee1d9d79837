-- a year of a way, its nodes: the class
section KWl
variable {l : Launch} {G : GT} {M : Nat} {ru : Nat → Int} {W : Wk} {all : Bool} {x : Int32}
theorem k_passStep (hM : M = 163840) (hr : RB ru) (hW : WB ru W) (hx : ∃ m : Nat, m < 2147483648 ∧ x = jI (m : Int)) (n j : Nat) (hj : j ≤ 2) (hA : CAr l G M ru W all x n j) (hS : CSe l G M ru W all x n j) (hPy : CPy l G M ru W all x n j) : CPy l G M ru W all x (n + 1) j := by
  intro D σ A U Q a1 a2 a3 a4 a5 a6 hD hX hU h6 hn h11 hT hAG e1 e2 e3 e4 e5 e6 hq
  have hr' := hr
  unfold RB at hr'
  have hvW := V_t hW
  have hv := V_t hU.1
  have hB := hU.1
  have hT0 := hB.2.2.2.2.2.1 h6
  have b2 := hB.2.1
  have b3 := hB.2.2.1
  have b4 := hB.2.2.2.1
  have b7 := hB.2.2.2.2.2.2.1
  have u0 := hU.2.2.2.2.1
  have ea : U.am = W.am := by unfold Wk.am; rw [hU.2.1]
  have era : U.ra = W.ra := by unfold Wk.ra; rw [hU.2.1]
  have hn' : U.f 0 + 1 + (n : Int) = ru 1 := by push_cast at hn; omega
  obtain ⟨d', rfl⟩ : ∃ d', D = d' + 7 := ⟨D - 7, by omega⟩
  obtain ⟨k, hk⟩ : ∃ k, k = U.t - W.t := ⟨_, rfl⟩
  rw [← hk] at hq
  obtain ⟨af, haf⟩ : ∃ af : Int32, af = jI (U.f 7 + zd ru W.am (U.f 2) (U.t + 1)) := ⟨_, rfl⟩
  have one : ∀ (up la : Int) (σ1 : Mm) (A1 : Ag) (u9 u10 : Int32), up = 0 ∨ up = 1 → u10 = jI up → u9 = jI la → up ≤ la → la ≤ 1 → FLw j σ σ1 → AG M σ1 A1 → (∀ τ, FLw j σ τ → AG M τ ((lvN ru all (btI x) n (k + 1) (wkA ru 3 (wPass ru U up))).foldl (finA all ru) A1) → Wp l G (d' + 7) mX10_passYear 80 [(0, .ref 69), (1, .int a1), (2, .int a2), (3, .int a3), (5, .int a5), (6, .int a6), (7, .int af), (9, .int u9), (10, .int (u10 + 1))] [] τ Q) → Wp l G (d' + 7) mX10_passYear 80 [(0, .ref 69), (1, .int a1), (2, .int a2), (3, .int a3), (5, .int a5), (6, .int a6), (7, .int af), (9, .int u9), (10, .int u10)] [] σ1 Q := by
    intro up la σ1 A1 u9 u10 hup hu10 hu9 hla hla1 f1 hA1 hgo
    have X1 := hX.fr hvW.2.2.2.2 hj f1
    have T1 := hT.fr hr hj f1
    have pv := wPass_v ru U up
    have hP := US_pass hr hW hU h6 up hup
    have hvP := V_t hP.1
    obtain ⟨P, hPe⟩ : ∃ P, P = wPass ru U up := ⟨_, rfl⟩
    have c0 := wPass_c0 (ru := ru) (U := U) up
    have c1 := wPass_c1 (ru := ru) (U := U) up
    have c2 := wPass_c2 (ru := ru) (U := U) up
    rw [← hPe] at pv hP hvP c0 c1 c2 hgo
    have et : P.t = U.t + 1 := by omega
    have eh : U.h ≤ P.h ∧ P.h ≤ U.h + 1 := by omega
    have ek : P.t - W.t = k + 1 := by omega
    have ga2 : a2 + 1 = jI (P.f 0) := by rw [e2, show (1 : Int32) = jI 1 from rfl, jadd, pv.1]
    have ga3 : a3 + u10 = jI (P.f 1) := by rw [e3, hu10, jadd, pv.2.1]
    refine wX10_passYear [(80, [0, 1, 2, 3, 5, 6, 7, 9, 10])] 80 ?_
    refine brlt la up (fun q => by omega) (fun _ => ?_) (hx := hu9) (hy := hu10)
    by_cases q4 : U.f 4 = 0
    · rw [if_pos q4] at e6
      have c0 := c0 q4
      refine breq 0 0 (fun _ => ?_) (fun q => absurd rfl q) (hx := e6) (hy := rfl)
      refine hA (d' + 6) σ1 A1 P _ _ _ _ _ (by omega) X1 hP c0.1 (by omega) (by omega) (fun n0 => ⟨?_, T1.next c0.2.2.2.1 c0.2.2.1 et eh⟩) hA1 e1 ga2 ga3 (by rw [haf, c0.2.2.2.2.1, ea]) (fun τ g1 g2 => ?_)
      · rw [c0.2.2.2.2.2, if_neg (by omega)]
        exact h6
      · rw [ek] at g2
        exact hgo τ (f1.tr g1) g2
    · rw [if_neg q4] at e6
      have w7 := b7 q4
      have hl : U.f 0 + 1 ≠ ru 1 := by omega
      refine breq (U.f 5) 0 (fun q => by omega) (fun _ => ?_) (hx := e6) (hy := rfl)
      refine breq (U.f 5) 1 (fun q5 => ?_) (fun q5 => ?_) (hx := e6) (hy := rfl)
      · have c1 := c1 q4 (by omega) hl
        have vt : ((wPass1 ru U up).put 5 (U.f 5 - 1)).t = P.t := by
          show (U.f 0 + 1).toNat = P.t
          omega
        have vh : ((wPass1 ru U up).put 5 (U.f 5 - 1)).h = P.h := by
          show (U.f 1 + up).toNat = P.h
          omega
        have vam : ((wPass1 ru U up).put 5 (U.f 5 - 1)).am = W.am := ea
        have vra : ((wPass1 ru U up).put 5 (U.f 5 - 1)).ra = W.ra := era
        have P4 : P.f 4 = 0 := by
          rw [c1]
          by_cases z : U.f 4 = 1
          · exact (wRun_1 (ru := ru) (V := (wPass1 ru U up).put 5 (U.f 5 - 1)) (show U.f 4 = 1 from z)).2.2.2.2.2.1
          · exact (wRun_0 (ru := ru) (V := (wPass1 ru U up).put 5 (U.f 5 - 1)) (show U.f 4 ≠ 1 from z)).2.2.2.2.2.1
        refine hS (d' + 6) σ1 A1 P _ (U.f 4) (U.f 7 + zd ru W.am (U.f 2) (U.t + 1)) _ _ _ _ _ (by omega) X1 hP P4 (by omega) (by omega) ?_ hA1 e1 ga2 ga3 haf e5 (fun τ g1 g2 => ?_)
        · by_cases z : U.f 4 = 1
          · have w := wRun_1 (ru := ru) (V := (wPass1 ru U up).put 5 (U.f 5 - 1)) (show U.f 4 = 1 from z)
            rw [← c1, vam, vt] at w
            refine Or.inl ⟨z, w.1, by rw [w.2.2.2.2.1]; exact h11, ?_⟩
            rw [w.2.2.2.1]
            show U.f 7 + zd ru U.am (U.f 2) (U.t + 1) + zpr ru W.am P.t = _
            rw [ea]
          · have w := wRun_0 (ru := ru) (V := (wPass1 ru U up).put 5 (U.f 5 - 1)) (show U.f 4 ≠ 1 from z)
            rw [← c1, vam, vt, vra, vh] at w
            refine Or.inr ⟨by omega, w.1.trans h6, ?_, ?_, w.2.2.2.2.2.2.2, ?_⟩
            · rw [w.2.2.2.2.1]
              show U.f 11 + 1 = _
              rw [h11]
            · rw [w.2.2.2.1]
              show U.f 7 + zd ru U.am (U.f 2) (U.t + 1) + _ = _
              rw [ea]
            · rw [T1.2.1, w.2.2.2.2.2.2.1]
              show jI (U.f 3) = jI (U.f 3 - 1 + 1)
              congr 1
              omega
        · rw [ek] at g2
          exact hgo τ (f1.tr g1) g2
      · have c2 := c2 q4 (by omega) hl
        have stop : wkA ru 3 P = P := wkA_stop 3 (fun z => q4 (c2.1.symm.trans z.2))
        rw [stop] at hgo
        refine hPy (d' + 6) σ1 A1 P _ _ _ _ _ _ _ (by omega) X1 hP (c2.2.2.1.trans h6) (by omega) (by omega) (T1.next c2.2.2.2.2.2.1 c2.2.2.2.2.1 et eh) hA1 e1 ga2 ga3 (by rw [haf, c2.2.2.2.2.2.2, ea]) (by rw [e5, c2.1]) ?_ (fun τ g1 g2 => ?_)
        · rw [c2.1, if_neg q4, c2.2.1, e6, show (1 : Int32) = jI 1 from rfl, jsub]
        · rw [ek] at g2
          exact hgo τ (f1.tr g1) g2
  have exit : ∀ (up la : Int) (τ : Mm) (u9 u10 : Int32), u10 = jI up → u9 = jI la → la < up → R31 up → R31 la → Q none τ → Wp l G (d' + 7) mX10_passYear 80 [(0, .ref 69), (1, .int a1), (2, .int a2), (3, .int a3), (5, .int a5), (6, .int a6), (7, .int af), (9, .int u9), (10, .int u10)] [] τ Q := by
    intro up la τ u9 u10 h10 h9 hlt r1 r2 hQ
    refine wX10_passYear [] 40 ?_
    exact brlt la up (fun _ => hQ) (fun q => by omega) (hx := h9) (hy := h10)
  obtain ⟨x1, x2, x3, x4, x5, x6, x7⟩ := hX
  -- the moves
  have tail : Wp l G (d' + 7) mX10_passYear 35 [(0, .ref 69), (1, .int a1), (2, .int a2), (3, .int a3), (5, .int a5), (6, .int a6), (7, .int af)] [] σ Q := by
    have es : lvN ru all (btI x) (n + 1) k U = if U.f 6 = 0 then (if all = true then lvN ru all (btI x) n (k + 1) (wkA ru 3 (wPass ru U 0)) ++ lvN ru all (btI x) n (k + 1) (wkA ru 3 (wPass ru U 1)) else lvN ru all (btI x) n (k + 1) (wkA ru 3 (wPass ru U (btI x k)))) else [U] := rfl
    rw [if_pos h6] at es
    cases all with
    | true =>
      rw [if_pos rfl] at es
      have x5 : σ.1 69 12 = 1 := x5
      refine wX10_passYear [(80, [0, 1, 2, 3, 5, 6, 7, 9, 10])] 60 ?_
      refine And.intro (fun q => absurd (x5.symm.trans q) (by decide)) (fun _ => ?_)
      refine And.intro (fun q => absurd (x5.symm.trans q) (by decide)) (fun _ => ?_)
      refine one 0 1 σ A _ _ (Or.inl rfl) rfl rfl (by omega) (by omega) FLw.rf hAG (fun τ f1 g1 => ?_)
      refine one 1 1 τ _ _ _ (Or.inr rfl) rfl rfl (by omega) (by omega) f1 g1 (fun ρ f2 g2 => ?_)
      refine exit 2 1 ρ _ _ rfl rfl (by omega) (by omega) (by omega) (hq ρ f2 ?_)
      rw [es, List.foldl_append]
      exact g2
    | false =>
      rw [if_neg (by decide)] at es
      have x5 : σ.1 69 12 = 0 := x5
      obtain ⟨m, hm, hxm⟩ := hx
      have hk12 : k < 12 := by omega
      have bt := btI_in x k
      have hmv : ((σ.1 69 13).toUInt32 >>> ((a2 - σ.1 69 14).toUInt32 &&& Int32.toUInt32 31)).toInt32 &&& 1 = jI (btI x k) := by
        have e : a2 - σ.1 69 14 = jI (k : Int) := by rw [e2, x7, jsub]; congr 1; omega
        rw [x6, e, hxm, ushI hm hk12, and1I _ (Nat.lt_of_le_of_lt (Nat.div_le_self _ _) hm), btI_v hm hk12]
      refine wX10_passYear [(80, [0, 1, 2, 3, 5, 6, 7, 9, 10])] 60 ?_
      refine And.intro (fun _ => ?_) (fun q => absurd x5 q)
      refine And.intro (fun _ => ?_) (fun q => absurd x5 q)
      refine one (btI x k) (btI x k) σ A _ _ bt hmv hmv (Int.le_refl _) (by omega) FLw.rf hAG (fun τ f1 g1 => ?_)
      refine exit (btI x k + 1) (btI x k) τ _ _ (by rw [hmv, show (1 : Int32) = jI 1 from rfl, jadd]) hmv (by omega) (by omega) (by omega) (hq τ f1 ?_)
      rw [es]
      exact g1
  have efa : a4 + jI (zd ru W.am (U.f 2) (U.t + 1)) = af := by rw [e4, haf, jadd]
  have h012 : j = 0 ∨ j = 1 ∨ j = 2 := by omega
  rcases h012 with rfl | rfl | rfl
  · refine vX10_passYear [(35, [0, 1, 2, 3, 5, 6, 7])] 60 ?_
    refine ldI 14 1 (x1.2 1 (by omega)) ?_ (hi := rfl)
    refine brlt (U.f 0) (ru 1) (fun _ => ?_) (fun q => by omega) (hx := e2) (hy := rfl)
    refine ldN 3 0 (show refA 70 0 = 31 from rfl) ?_ (hi := e1)
    refine k_dueAt (U.t + 1) (U.f 2) hr x2 (by omega) (by omega) b2 ?_ (by rw [e2, show (1 : Int32) = jI 1 from rfl, jadd]; congr 1; omega) hT.1
    rw [← efa] at tail
    exact tail
  · refine vX10_passYear [(35, [0, 1, 2, 3, 5, 6, 7])] 60 ?_
    refine ldI 14 1 (x1.2 1 (by omega)) ?_ (hi := rfl)
    refine brlt (U.f 0) (ru 1) (fun _ => ?_) (fun q => by omega) (hx := e2) (hy := rfl)
    refine ldN 3 1 (show refA 70 1 = 72 from rfl) ?_ (hi := e1)
    refine k_dueAt (U.t + 1) (U.f 2) hr x2 (by omega) (by omega) b2 ?_ (by rw [e2, show (1 : Int32) = jI 1 from rfl, jadd]; congr 1; omega) hT.1
    rw [← efa] at tail
    exact tail
  · refine vX10_passYear [(35, [0, 1, 2, 3, 5, 6, 7])] 60 ?_
    refine ldI 14 1 (x1.2 1 (by omega)) ?_ (hi := rfl)
    refine brlt (U.f 0) (ru 1) (fun _ => ?_) (fun q => by omega) (hx := e2) (hy := rfl)
    refine ldN 3 2 (show refA 70 2 = 84 from rfl) ?_ (hi := e1)
    refine k_dueAt (U.t + 1) (U.f 2) hr x2 (by omega) (by omega) b2 ?_ (by rw [e2, show (1 : Int32) = jI 1 from rfl, jadd]; congr 1; omega) hT.1
    rw [← efa] at tail
    exact tail
theorem k_arriveS (hM : M = 163840) (hr : RB ru) (hW : WB ru W) (n j : Nat) (hj : j ≤ 2) (hS : CSe l G M ru W all x n j) (hPy : CPy l G M ru W all x n j) : CAr l G M ru W all x n j := by
  intro D σ A U Q a1 a2 a3 a4 hD hX hU h4 hn h11 hT hAG e1 e2 e3 e4 hq
  have hr' := hr
  unfold RB at hr'
  have hv := V_t hU.1
  have hB := hU.1
  have h7 := US_7 hr hW hU
  have ea : U.am = W.am := by unfold Wk.am; rw [hU.2.1]
  have era : U.ra = W.ra := by unfold Wk.ra; rw [hU.2.1]
  obtain ⟨d', rfl⟩ : ∃ d', D = d' + 8 := ⟨D - 8, by omega⟩
  obtain ⟨x1, x2, x3, x4, x5, x6, x7⟩ := id hX
  by_cases n0 : n = 0
  · -- the last year is behind
    have b6 := hB.2.2.2.2.1
    have z6 : U.f 6 ≠ 0 := fun z => by have := hB.2.2.2.2.2.1 z; omega
    rw [wkA_stop 3 (fun q => z6 q.1), lvN_end n _ z6] at hq
    refine vX10_arrive [] 60 ?_
    refine ldI 14 1 (x1.2 1 (by omega)) ?_ (hi := rfl)
    refine brlt (U.f 0) (ru 1) (fun q => by omega) (fun _ => ?_) (hx := e2) (hy := rfl)
    refine k_finish (M := M) all A U hM x1 hAG x5 (by omega) h7 (fun τ g1 g2 g3 g4 => ?_) (by rw [e1, h11]) e2 e4 (by rw [if_neg (by omega)])
    refine hq τ ⟨fun c hc => g1 c (fun z => hc ?_), g2, g3⟩ g4
    rw [z]
    have : j = 0 ∨ j = 1 ∨ j = 2 := by omega
    rcases this with rfl | rfl | rfl <;> decide
  · obtain ⟨h6, hTv⟩ := hT (by omega)
    have hT0 := hB.2.2.2.2.2.1 h6
    have hnd := nd_lt2 (t := U.t) (h := U.h) (by omega) hv.2.2.1
    have hbk := wBest_ok ru U U.t U.h
    obtain ⟨dd, hdd⟩ : ∃ dd, dd = wBest ru U U.t U.h := ⟨_, rfl⟩
    have hdeed : σ.1 (lo j + 3) (nd U.t U.h) = jI dd := by
      rw [(hTv.2.2 U.t U.h (Nat.le_refl _) (by omega) (Nat.le_refl _) (by omega)).2.2.2.1, hdd]
      show jI (zbd ru W.am W.ra (U.f 2) (zC ru W.am W.ra none U.r (U.f 2) (zN ru W.am W.ra none U.r)) (zN ru W.am W.ra none U.r) U.r U.t U.h) = jI (zbd ru U.am U.ra (U.f 2) (zco ru U.am U.ra none U.r (U.f 2)) (zN ru U.am U.ra none U.r) U.r U.t U.h)
      rw [ea, era]
      rfl
    rw [← hdd] at hbk
    have es : wkA ru 3 U = if U.f 6 = 0 ∧ U.f 4 = 0 ∧ wBest ru U U.t U.h ≠ 0 then wkA ru 2 (wGive ru U (wBest ru U U.t U.h)) else U := rfl
    rw [← hdd] at es
    have e10 : σ.1 1 10 = jI (ru 10) := x1.2 10 (by omega)
    -- behind the deed
    have tail : Wp l G (d' + 8) mX10_arrive 37 [(0, .ref 69), (1, .int a1), (2, .int a2), (3, .int a3), (4, .int a4), (5, .int (jI dd))] [] σ Q := by
      refine wX10_arrive [] 60 ?_
      refine breq dd 0 (fun q => ?_) (fun q => ?_) (hx := rfl) (hy := rfl)
      · -- held
        rw [if_neg (fun z => z.2.2 q)] at es
        rw [es] at hq
        refine breq dd 0 (fun _ => ?_) (fun z => absurd q z) (hx := rfl) (hy := rfl)
        exact hPy (d' + 7) σ A U _ _ _ _ _ _ _ (by omega) hX hU h6 hn h11 hTv hAG e1 e2 e3 e4 (by rw [h4, q]) (by rw [if_pos h4]; rfl) hq
      · rw [if_pos ⟨h6, h4, q⟩] at es
        have hG9 : US ru W (wGive ru U dd) := by rw [hdd]; exact US_give hr hW hU h6 h4 (by rw [← hdd]; exact q)
        have g11 := wGive_11 ru U dd
        refine ldI 14 10 e10 ?_ (hi := rfl)
        refine brle (ru 10) 0 (fun q10 => ?_) (fun q10 => ?_) (hx := rfl) (hy := rfl)
        · -- at once
          have z10 : ru 10 = 0 := by omega
          have hvG := V_t hG9.1
          have et : (wGive ru U dd).t = U.t := by unfold Wk.t; rw [g11.2.1]
          have eh : (wGive ru U dd).h = U.h := by unfold Wk.h; rw [g11.2.2]
          have efu : wkA ru 2 (wGive ru U dd) = wkA ru 3 (wGive ru U dd) := by
            refine wkA_fuel 2 _ hr hG9.1 (fun z => ?_)
            by_cases d1 : dd = 1
            · exfalso
              have : (wGive ru U dd).f 6 = 1 := by
                unfold wGive
                rw [if_pos z10]
                exact (wRun_1 (ru := ru) (V := (U.put 4 dd).put 5 (ru 10)) (show dd = 1 from d1)).1
              omega
            · have : (wGive ru U dd).f 3 = U.f 3 - 1 := by
                unfold wGive
                rw [if_pos z10]
                exact (wRun_0 (ru := ru) (V := (U.put 4 dd).put 5 (ru 10)) (show dd ≠ 1 from d1)).2.2.2.2.2.2.1
              omega
          rw [es, efu] at hq
          refine hS (d' + 7) σ A (wGive ru U dd) _ dd (U.f 7) _ _ _ _ _ (by omega) hX hG9 ?_ (by omega) (by omega) ?_ hAG e1 (by rw [g11.2.1]; exact e2) (by rw [g11.2.2]; exact e3) e4 rfl (fun τ f1 f2 => hq τ f1 (by rw [et] at f2; exact f2))
          · unfold wGive
            rw [if_pos z10]
            by_cases d1 : dd = 1
            · exact (wRun_1 (ru := ru) (V := (U.put 4 dd).put 5 (ru 10)) (show dd = 1 from d1)).2.2.2.2.2.1
            · exact (wRun_0 (ru := ru) (V := (U.put 4 dd).put 5 (ru 10)) (show dd ≠ 1 from d1)).2.2.2.2.2.1
          · rw [et, eh]
            by_cases d1 : dd = 1
            · have w := wRun_1 (ru := ru) (V := (U.put 4 dd).put 5 (ru 10)) (show dd = 1 from d1)
              refine Or.inl ⟨d1, ?_, ?_, ?_⟩
              · unfold wGive; rw [if_pos z10]; exact w.1
              · unfold wGive; rw [if_pos z10, w.2.2.2.2.1]; exact h11
              · unfold wGive; rw [if_pos z10, w.2.2.2.1]
                show U.f 7 + zpr ru U.am U.t = _
                rw [ea]
            · have w := wRun_0 (ru := ru) (V := (U.put 4 dd).put 5 (ru 10)) (show dd ≠ 1 from d1)
              refine Or.inr ⟨by omega, ?_, ?_, ?_, ?_, ?_⟩
              · unfold wGive; rw [if_pos z10]; exact w.1.trans h6
              · unfold wGive; rw [if_pos z10, w.2.2.2.2.1]
                show U.f 11 + 1 = _
                rw [h11]
              · unfold wGive; rw [if_pos z10, w.2.2.2.1]
                show U.f 7 + (zpr ru U.am U.t - zl ru U.am U.t + ru 13) = _
                rw [ea]
              · unfold wGive; rw [if_pos z10, w.2.2.2.2.2.2.2]
                show zcp ru U.ra U.t U.h = _
                rw [era]
              · rw [hTv.2.1]
                unfold wGive; rw [if_pos z10, w.2.2.2.2.2.2.1]
                show jI (U.f 3) = jI (U.f 3 - 1 + 1)
                congr 1
                omega
        · -- notice is given
          have z := wGive_n (ru := ru) (V := U) (ki := dd) (show ru 10 ≠ 0 by omega)
          have stop : wkA ru 2 (wGive ru U dd) = wGive ru U dd := wkA_stop 2 (fun k => by have := k.2; omega)
          rw [es, stop] at hq
          have et : (wGive ru U dd).t = U.t := by unfold Wk.t; rw [g11.2.1]
          have eh : (wGive ru U dd).h = U.h := by unfold Wk.h; rw [g11.2.2]
          have er : (wGive ru U dd).r = U.r := by unfold Wk.r; rw [z.2.2.2.2.2.1]
          refine breq dd 0 (fun k => absurd k q) (fun _ => ?_) (hx := rfl) (hy := rfl)
          refine ldI 14 10 e10 ?_ (hi := rfl)
          refine hPy (d' + 7) σ A (wGive ru U dd) _ _ _ _ _ _ _ (by omega) hX hG9 (z.1.trans h6) (by omega) (by omega) ⟨by rw [z.2.2.2.2.1]; exact hTv.1, by rw [z.2.2.2.2.2.1]; exact hTv.2.1, fun t h q1 q2 q3 q4 => ?_⟩ hAG e1 (by rw [g11.2.1]; exact e2) (by rw [g11.2.2]; exact e3) (by rw [z.2.2.2.2.2.2.2.1]; exact e4) (by rw [z.2.1]) (by rw [z.2.1, if_neg q, z.2.2.2.2.2.2.1]) (fun τ f1 f2 => hq τ f1 (by rw [et] at f2; exact f2))
          rw [et] at q1 q4
          rw [eh] at q3 q4
          rw [er, z.2.2.2.2.1]
          exact hTv.2.2 t h q1 q2 q3 q4
    have h012 : j = 0 ∨ j = 1 ∨ j = 2 := by omega
    rcases h012 with rfl | rfl | rfl
    · refine vX10_arrive [(37, [0, 1, 2, 3, 4, 5])] 60 ?_
      refine ldI 14 1 (x1.2 1 (by omega)) ?_ (hi := rfl)
      refine brlt (U.f 0) (ru 1) (fun _ => ?_) (fun q => by omega) (hx := e2) (hy := rfl)
      refine ldN 3 0 (show refA 70 0 = 31 from rfl) ?_ (hi := e1)
      refine k_nodeOf U.t U.h ?_ (by rw [e2, hv.1]) (by rw [e3, hv.2.1])
      exact ldI 91 (nd U.t U.h) hdeed tail (hi := rfl)
    · refine vX10_arrive [(37, [0, 1, 2, 3, 4, 5])] 60 ?_
      refine ldI 14 1 (x1.2 1 (by omega)) ?_ (hi := rfl)
      refine brlt (U.f 0) (ru 1) (fun _ => ?_) (fun q => by omega) (hx := e2) (hy := rfl)
      refine ldN 3 1 (show refA 70 1 = 72 from rfl) ?_ (hi := e1)
      refine k_nodeOf U.t U.h ?_ (by rw [e2, hv.1]) (by rw [e3, hv.2.1])
      exact ldI 91 (nd U.t U.h) hdeed tail (hi := rfl)
    · refine vX10_arrive [(37, [0, 1, 2, 3, 4, 5])] 60 ?_
      refine ldI 14 1 (x1.2 1 (by omega)) ?_ (hi := rfl)
      refine brlt (U.f 0) (ru 1) (fun _ => ?_) (fun q => by omega) (hx := e2) (hy := rfl)
      refine ldN 3 2 (show refA 70 2 = 84 from rfl) ?_ (hi := e1)
      refine k_nodeOf U.t U.h ?_ (by rw [e2, hv.1]) (by rw [e3, hv.2.1])
      exact ldI 91 (nd U.t U.h) hdeed tail (hi := rfl)
theorem k_arrive (hM : M = 163840) (hr : RB ru) (hW : WB ru W) (hx : ∃ m : Nat, m < 2147483648 ∧ x = jI (m : Int)) : ∀ (n j : Nat), j ≤ 2 → CAr l G M ru W all x n j := by
  have full : ∀ n : Nat, (∀ j, j ≤ 2 → CPy l G M ru W all x n j) → ∀ j, j ≤ 2 → CAr l G M ru W all x n j ∧ CSe l G M ru W all x n j := by
    intro n hPy
    have s2 := k_settle (l := l) (G := G) (all := all) (x := x) hM hr hW n 2 (by omega) (fun h => by omega)
    have a2 := k_arriveS hM hr hW n 2 (by omega) s2 (hPy 2 (by omega))
    have s1 := k_settle (l := l) (G := G) (all := all) (x := x) hM hr hW n 1 (by omega) (fun _ => a2)
    have a1 := k_arriveS hM hr hW n 1 (by omega) s1 (hPy 1 (by omega))
    have s0 := k_settle (l := l) (G := G) (all := all) (x := x) hM hr hW n 0 (by omega) (fun _ => a1)
    have a0 := k_arriveS hM hr hW n 0 (by omega) s0 (hPy 0 (by omega))
    intro j hj
    have : j = 0 ∨ j = 1 ∨ j = 2 := by omega
    rcases this with rfl | rfl | rfl
    · exact ⟨a0, s0⟩
    · exact ⟨a1, s1⟩
    · exact ⟨a2, s2⟩
  have py : ∀ n : Nat, ∀ j, j ≤ 2 → CPy l G M ru W all x n j := by
    intro n
    induction n with
    | zero =>
      intro j hj D σ A U Q a1 a2 a3 a4 a5 a6 hD hX hU h6 hn
      have := hU.1.2.2.2.2.2.1 h6
      exfalso
      omega
    | succ n ih =>
      intro j hj
      have f := full n ih j hj
      exact k_passStep hM hr hW hx n j hj f.1 f.2 (ih j hj)
  intro n j hj
  exact (full n (py n) j hj).1
end KWl
