-- a loan, a policy told: the reference
section MBg
variable {l : Launch} {G : GT} {d : Nat} {σ : Mm} {Q : Po} {T : Tp} {S : Sc}
theorem Mr_00 {τ : Mm} {ru : Nat → Int} (hr : RB ru) (h : ∀ j, j < 313 → τ.1 108 j = if j = 2 then jI (ru 2) else if j = 3 then jI (ru 11) else if 25 ≤ j ∧ j < 169 then -1 else 0) : Mr τ ru 108 (W00 ru) := by
  have hr' := hr
  unfold RB at hr'
  refine ⟨fun k hk => ?_, fun j hj => ?_, fun t k ht hk => ⟨-1, ?_, Or.inl rfl, ?_⟩, fun t k ht hk => ?_⟩
  · rw [h k (by omega)]
    show _ = jI (if k = 2 then ru 2 else if k = 3 then ru 11 else 0)
    by_cases q2 : k = 2
    · rw [if_pos q2, if_pos q2]
    · rw [if_neg q2, if_neg q2]
      by_cases q3 : k = 3
      · rw [if_pos q3, if_pos q3]
      · rw [if_neg q3, if_neg q3, if_neg (by omega)]
        rfl
  · rw [h _ (by omega), if_neg (by omega), if_neg (by omega), if_neg (by omega)]
    rfl
  · rw [h _ (by omega), if_neg (by omega), if_neg (by omega), if_pos (by omega)]
    rfl
  · show bsR ru t k = zra ru (-1) 0 t k
    unfold bsR zra
    rw [if_pos ⟨hk, ht⟩, if_pos rfl, Int.add_zero, bnd_id (bnd_in _).1 (bnd_in _).2]
  · rw [h _ (by omega), if_neg (by omega), if_neg (by omega), if_neg (by omega)]
    rfl
theorem c_begins {L : Pl} {ru : Nat → Int} {had : Nat} (hL : LM σ L ru) (hW : PW 0 had L ru)
    (hq : ∀ τ : Mm, (∀ c, c ≠ 98 → c ≠ 101 → c ≠ 108 → τ.1 c = σ.1 c) → τ.2 = σ.2 → (∀ k, k ≠ 17 → k ≠ 25 → k ≠ 26 → τ.1 98 k = σ.1 98 k) → ME τ ru → τ.1 98 17 = 1 → τ.1 98 25 = 0 → τ.1 98 26 = 0 → τ.1 108 313 = 0 → Mr τ ru 108 (wLoan ru L) → Q none τ) : MW l G (d + 3) mX12_begins [.ref 98] σ Q := by
  have hr : RB ru := RB_bd hW.1.2
  have hr' := hr
  unfold RB at hr'
  have hl1 := hW.2.2 1 (by omega) (by omega)
  have hl2 := hW.2.2 2 (by omega) (by omega)
  have li1 : limB 1 = 12 := rfl
  have li2 : limB 2 = 16 := rfl
  have hsp := wLoan_split ru (W00 ru) L.length L rfl (fun q hq => by have := hW.2.1 q hq; omega)
  let I : Mm → Prop := fun τ => (∀ c, c ≠ 98 → c ≠ 101 → c ≠ 108 → τ.1 c = σ.1 c) ∧ τ.2 = σ.2 ∧ (∀ k, k ≠ 17 → τ.1 98 k = σ.1 98 k) ∧ (∀ k, k < 14 → τ.1 101 k = jI (ru k)) ∧ τ.1 98 17 = 1 ∧ τ.1 108 313 = 0
  have Iu : ∀ τ k v, k < 313 → I τ → I (uI τ 108 k v) := fun τ k v hk h => ⟨fun c k1 k2 k3 => by rw [uI_n k3]; exact h.1 c k1 k2 k3, h.2.1, fun j hj => by rw [uI_n (by decide)]; exact h.2.2.1 j hj, fun j hj => by rw [uI_n (by decide)]; exact h.2.2.2.1 j hj, by rw [uI_n (by decide)]; exact h.2.2.2.2.1, by rw [uI_ne (Or.inr (by omega))]; exact h.2.2.2.2.2⟩
  -- the rates told
  have rates : ∀ (m i : Nat) (u : Int32) (τ : Mm), i + m = (fl 2 L).length → u = jI (i : Int) → I τ → Mr τ ru 108 (((fl 2 L).take i).foldl (stpW ru) ((fl 1 L).foldl (stpW ru) (W00 ru))) → Wp l G (d + 3) mX12_begins 164 [(0, .ref 98), (1, .int u)] [] τ Q := by
    intro m
    induction m with
    | zero =>
      intro i u τ hm hu hI hM
      have p : τ.1 98 14 = jI ((fl 2 L).length : Int) := by rw [hI.2.2.1 14 (by decide)]; exact hL.2.1
      rw [List.take_of_length_le (by omega), ← hsp] at hM
      refine wX12_begins [] 60 ?_
      refine brle ((fl 2 L).length : Int) (i : Int) (fun _ => ?_) (fun q => by omega) (hx := p) (hy := hu)
      refine And.intro (Or.inl rfl) ?_
      have hn : ∀ c, c ≠ 98 → (uI (uI τ 98 25 0) 98 26 0).1 c = τ.1 c := fun c hc => by rw [uI_n hc, uI_n hc]
      refine hq _ (fun c k1 k2 k3 => by rw [hn c k1]; exact hI.1 c k1 k2 k3) hI.2.1 (fun k k1 k2 k3 => by rw [uI_ne (Or.inr k3), uI_ne (Or.inr k2)]; exact hI.2.2.1 k k1) ⟨hr, fun k hk => by rw [hn 101 (by decide)]; exact hI.2.2.2.1 k hk⟩ (by rw [uI_ne (Or.inr (by decide)), uI_ne (Or.inr (by decide))]; exact hI.2.2.2.2.1) (by rw [uI_ne (Or.inr (by decide)), uI_at]) (uI_at _ _ _ _) (by rw [hn 108 (by decide)]; exact hI.2.2.2.2.2) (hM.fr (fun k _ => by rw [hn 108 (by decide)]) hr)
    | succ m ih =>
      intro i u τ hm hu hI hM
      have p : τ.1 98 14 = jI ((fl 2 L).length : Int) := by rw [hI.2.2.1 14 (by decide)]; exact hL.2.1
      obtain ⟨q, hqi⟩ : ∃ q, (fl 2 L)[i]? = some q := ⟨_, List.getElem?_eq_getElem (by omega)⟩
      have hmem := fl_mem (List.mem_of_getElem? hqi)
      have hwq := hW.2.1 q hmem.1
      have hb := bd2 (by have := hwq.2.2; rw [hmem.2] at this; exact this)
      have hR := fun w hw => hL.2.2.2.2 i q hqi w hw
      have w0 : τ.1 103 (3 * i) = jI (q.2 0) := by rw [hI.1 103 (by decide) (by decide) (by decide)]; exact hR 0 (by decide)
      have w1 : τ.1 103 (3 * i + 1) = jI (q.2 1) := by rw [hI.1 103 (by decide) (by decide) (by decide)]; exact hR 1 (by decide)
      have w2 : τ.1 103 (3 * i + 2) = jI (q.2 2) := by rw [hI.1 103 (by decide) (by decide) (by decide)]; exact hR 2 (by decide)
      have htake : (fl 2 L).take (i + 1) = (fl 2 L).take i ++ [q] := by
        rw [List.take_add_one, hqi]
        rfl
      have go : ∀ ρ, I ρ → Mr ρ ru 108 (stpW ru (((fl 2 L).take i).foldl (stpW ru) ((fl 1 L).foldl (stpW ru) (W00 ru))) q) → Wp l G (d + 3) mX12_begins 164 [(0, .ref 98), (1, .int (u + 1))] [] ρ Q := by
        intro ρ hIρ hMρ
        refine ih (i + 1) _ ρ (by omega) (by rw [hu]; simp only [jlit, jadd]; congr 1) hIρ ?_
        rw [htake, List.foldl_append]
        exact hMρ
      unfold stpW at go
      rw [if_neg (by omega), if_pos hmem.2] at go
      refine wX12_begins [(164, [0, 1])] 80 ?_
      refine brle ((fl 2 L).length : Int) (i : Int) (fun q => by omega) (fun _ => ?_) (hx := p) (hy := hu)
      refine ldI 48 (3 * i) w0 ?_ (hi := by rw [hu]; simp only [jlit, jmul]; congr 1)
      refine ldI 48 (3 * i + 1) w1 ?_ (hi := by rw [hu]; simp only [jlit, jmul, jadd]; congr 1)
      refine c_isNode (q.2 0) (q.2 1) hI.2.2.2.2.1 ⟨hr, hI.2.2.2.1⟩ (by omega) (by omega) ?_ rfl rfl
      refine brz _ (fun z => ?_) (fun z => ?_)
      · rw [if_neg z] at go
        exact go τ hI hM
      · rw [if_pos z] at go
        refine ldI 48 (3 * i) w0 ?_ (hi := by rw [hu]; simp only [jlit, jmul]; congr 1)
        refine ldI 48 (3 * i + 1) w1 ?_ (hi := by rw [hu]; simp only [jlit, jmul, jadd]; congr 1)
        refine c_node (q.2 0) (q.2 1) ?_ rfl rfl
        refine ldI 48 (3 * i + 2) w2 ?_ (hi := by rw [hu]; simp only [jlit, jmul, jadd]; congr 1)
        refine stI 494 (25 + (12 * (q.2 0).toNat + (q.2 1).toNat)) ?_ (hi := by simp only [jlit, jadd]; congr 1; omega)
        exact go _ (Iu _ _ _ (by omega) hI) (hM.putR (q.2 0).toNat (q.2 1).toNat (q.2 2) hr (by omega) (by omega) hb.2.2 rfl)
  have amts : ∀ (m i : Nat) (u : Int32) (τ : Mm), i + m = (fl 1 L).length → u = jI (i : Int) → I τ → Mr τ ru 108 (((fl 1 L).take i).foldl (stpW ru) (W00 ru)) → Wp l G (d + 3) mX12_begins 105 [(0, .ref 98), (1, .int u)] [] τ Q := by
    intro m
    induction m with
    | zero =>
      intro i u τ hm hu hI hM
      have p : τ.1 98 13 = jI ((fl 1 L).length : Int) := by rw [hI.2.2.1 13 (by decide)]; exact hL.1
      rw [List.take_of_length_le (by omega)] at hM
      refine wX12_begins [(164, [0, 1])] 60 ?_
      refine brle ((fl 1 L).length : Int) (i : Int) (fun _ => ?_) (fun q => by omega) (hx := p) (hy := hu)
      exact rates (fl 2 L).length 0 _ τ (by omega) rfl hI hM
    | succ m ih =>
      intro i u τ hm hu hI hM
      have p : τ.1 98 13 = jI ((fl 1 L).length : Int) := by rw [hI.2.2.1 13 (by decide)]; exact hL.1
      obtain ⟨q, hqi⟩ : ∃ q, (fl 1 L)[i]? = some q := ⟨_, List.getElem?_eq_getElem (by omega)⟩
      have hmem := fl_mem (List.mem_of_getElem? hqi)
      have hwq := hW.2.1 q hmem.1
      have hb := bd1 (by have := hwq.2.2; rw [hmem.2] at this; exact this)
      have hR := fun w hw => hL.2.2.2.1 i q hqi w hw
      have w0 : τ.1 102 (2 * i) = jI (q.2 0) := by rw [hI.1 102 (by decide) (by decide) (by decide)]; exact hR 0 (by decide)
      have w1 : τ.1 102 (2 * i + 1) = jI (q.2 1) := by rw [hI.1 102 (by decide) (by decide) (by decide)]; exact hR 1 (by decide)
      have htake : (fl 1 L).take (i + 1) = (fl 1 L).take i ++ [q] := by
        rw [List.take_add_one, hqi]
        rfl
      have go : ∀ ρ, I ρ → Mr ρ ru 108 (stpW ru (((fl 1 L).take i).foldl (stpW ru) (W00 ru)) q) → Wp l G (d + 3) mX12_begins 105 [(0, .ref 98), (1, .int (u + 1))] [] ρ Q := by
        intro ρ hIρ hMρ
        refine ih (i + 1) _ ρ (by omega) (by rw [hu]; simp only [jlit, jadd]; congr 1) hIρ ?_
        rw [htake, List.foldl_append]
        exact hMρ
      unfold stpW at go
      rw [if_pos hmem.2] at go
      refine wX12_begins [(105, [0, 1])] 80 ?_
      refine brle ((fl 1 L).length : Int) (i : Int) (fun q => by omega) (fun _ => ?_) (hx := p) (hy := hu)
      refine ldI 24 (2 * i) w0 ?_ (hi := by rw [hu]; simp only [jlit, jmul]; congr 1)
      refine ldI 14 1 (hI.2.2.2.1 1 (by omega)) ?_ (hi := rfl)
      refine brle (ru 1) (q.2 0) (fun z => ?_) (fun z => ?_) (hx := rfl) (hy := rfl)
      · rw [if_neg (by omega)] at go
        exact go τ hI hM
      · rw [if_pos (by omega)] at go
        refine ldI 24 (2 * i) w0 ?_ (hi := by rw [hu]; simp only [jlit, jmul]; congr 1)
        refine ldI 24 (2 * i + 1) w1 ?_ (hi := by rw [hu]; simp only [jlit, jmul, jadd]; congr 1)
        refine stI 494 (12 + (q.2 0).toNat) ?_ (hi := by simp only [jlit, jadd]; congr 1; omega)
        exact go _ (Iu _ _ _ (by omega) hI) (hM.putA (q.2 0).toNat (q.2 1) (by omega) rfl)
  -- not told
  have neg : ∀ (m i : Nat) (u : Int32) (τ : Mm), i + m = 144 → u = jI (i : Int) → (∀ c, c ≠ 101 → c ≠ 108 → τ.1 c = σ.1 c) → τ.2 = σ.2 → (∀ k, k < 14 → τ.1 101 k = jI (ru k)) → (∀ j, j < 494 → τ.1 108 j = if 25 ≤ j ∧ j < 25 + i then -1 else 0) → Wp l G (d + 3) mX12_begins 50 [(0, .ref 98), (1, .int u)] [] τ Q := by
    intro m
    induction m with
    | zero =>
      intro i u τ hm hu e1 e2 e3 e4
      refine wX12_begins [(105, [0, 1])] 80 ?_
      refine brle 144 (i : Int) (fun _ => ?_) (fun q => by omega) (hx := rfl) (hy := hu)
      refine ldI 14 2 (e3 2 (by omega)) ?_ (hi := rfl)
      refine stI 494 2 ?_ (hi := rfl)
      refine ldI 14 11 (show _ = jI (ru 11) by rw [uI_n (by decide)]; exact e3 11 (by omega)) ?_ (hi := rfl)
      refine stI 494 3 ?_ (hi := rfl)
      refine And.intro (Or.inr rfl) ?_
      have n8 : ∀ c, c ≠ 98 → c ≠ 108 → (uI (uI (uI τ 108 2 (jI (ru 2))) 108 3 (jI (ru 11))) 98 17 1).1 c = τ.1 c := fun c k1 k2 => by rw [uI_n k1, uI_n k2, uI_n k2]
      have n108 : ∀ j, j < 494 → (uI (uI (uI τ 108 2 (jI (ru 2))) 108 3 (jI (ru 11))) 98 17 1).1 108 j = if j = 2 then jI (ru 2) else if j = 3 then jI (ru 11) else if 25 ≤ j ∧ j < 169 then -1 else 0 := fun j hj => by
        rw [uI_n (by decide)]
        by_cases q3 : j = 3
        · rw [q3, uI_at, if_neg (by decide), if_pos rfl]
        · rw [uI_ne (Or.inr q3)]
          by_cases q2 : j = 2
          · rw [q2, uI_at, if_pos rfl]
          · rw [uI_ne (Or.inr q2), if_neg q2, if_neg q3, e4 j hj, show 25 + i = 169 by omega]
      refine amts (fl 1 L).length 0 _ _ (by omega) rfl ⟨fun c k1 k2 k3 => by rw [n8 c k1 k3]; exact e1 c k2 k3, e2, fun k hk => by rw [uI_ne (Or.inr hk), uI_n (by decide), uI_n (by decide), e1 98 (by decide) (by decide)], fun k hk => by rw [n8 101 (by decide) (by decide)]; exact e3 k hk, uI_at _ _ _ _, ?_⟩ (Mr_00 hr (fun j hj => n108 j (by omega)))
      rw [n108 313 (by omega), if_neg (by omega), if_neg (by omega), if_neg (by omega)]
    | succ m ih =>
      intro i u τ hm hu e1 e2 e3 e4
      refine wX12_begins [(50, [0, 1])] 60 ?_
      refine brle 144 (i : Int) (fun q => by omega) (fun _ => ?_) (hx := rfl) (hy := hu)
      refine stI 494 (25 + i) ?_ (hi := by rw [hu]; simp only [jlit, jadd]; congr 1)
      refine ih (i + 1) _ _ (by omega) (by rw [hu]; simp only [jlit, jadd]; congr 1) (fun c k1 k2 => by rw [uI_n k2]; exact e1 c k1 k2) e2 (fun k hk => by rw [uI_n (by decide)]; exact e3 k hk) (fun j hj => ?_)
      by_cases q : j = 25 + i
      · rw [q, uI_at, if_pos (by omega)]
      · rw [uI_ne (Or.inr q), e4 j hj]
        by_cases q2 : 25 ≤ j ∧ j < 25 + i
        · rw [if_pos q2, if_pos (by omega)]
        · rw [if_neg q2, if_neg (by omega)]
  have zer : ∀ (m i : Nat) (u : Int32) (τ : Mm), i + m = 494 → u = jI (i : Int) → (∀ c, c ≠ 101 → c ≠ 108 → τ.1 c = σ.1 c) → τ.2 = σ.2 → (∀ k, k < 14 → τ.1 101 k = jI (ru k)) → (∀ j, j < i → τ.1 108 j = 0) → Wp l G (d + 3) mX12_begins 28 [(0, .ref 98), (1, .int u)] [] τ Q := by
    intro m
    induction m with
    | zero =>
      intro i u τ hm hu e1 e2 e3 e4
      refine wX12_begins [(50, [0, 1])] 60 ?_
      refine brle 494 (i : Int) (fun _ => ?_) (fun q => by omega) (hx := rfl) (hy := hu)
      exact neg 144 0 _ τ (by omega) rfl e1 e2 e3 (fun j hj => by rw [if_neg (by omega)]; exact e4 j (by omega))
    | succ m ih =>
      intro i u τ hm hu e1 e2 e3 e4
      refine wX12_begins [(28, [0, 1])] 60 ?_
      refine brle 494 (i : Int) (fun q => by omega) (fun _ => ?_) (hx := rfl) (hy := hu)
      refine stI 494 i ?_ (hi := hu)
      refine ih (i + 1) _ _ (by omega) (by rw [hu]; simp only [jlit, jadd]; congr 1) (fun c k1 k2 => by rw [uI_n k2]; exact e1 c k1 k2) e2 (fun k hk => by rw [uI_n (by decide)]; exact e3 k hk) (fun j hj => ?_)
      by_cases q : j = i
      · rw [q, uI_at]
      · rw [uI_ne (Or.inr q)]
        exact e4 j (by omega)
  have rul : ∀ (m i : Nat) (u : Int32) (τ : Mm), i + m = 14 → u = jI (i : Int) → (∀ c, c ≠ 101 → τ.1 c = σ.1 c) → τ.2 = σ.2 → (∀ k, k < i → τ.1 101 k = jI (ru k)) → Wp l G (d + 3) mX12_begins 2 [(0, .ref 98), (1, .int u)] [] τ Q := by
    intro m
    induction m with
    | zero =>
      intro i u τ hm hu e1 e2 e3
      refine wX12_begins [(28, [0, 1])] 60 ?_
      refine brle 14 (i : Int) (fun _ => ?_) (fun q => by omega) (hx := rfl) (hy := hu)
      exact zer 494 0 _ τ (by omega) rfl (fun c k1 _ => e1 c k1) e2 (fun k hk => e3 k (by omega)) (fun j hj => by omega)
    | succ m ih =>
      intro i u τ hm hu e1 e2 e3
      refine wX12_begins [(2, [0, 1])] 60 ?_
      refine brle 14 (i : Int) (fun q => by omega) (fun _ => ?_) (hx := rfl) (hy := hu)
      refine ldI 14 i (show _ = jI (ru i) by rw [e1 100 (by decide)]; exact hL.2.2.1 i (by omega)) ?_ (hi := hu)
      refine stI 14 i ?_ (hi := hu)
      refine ih (i + 1) _ _ (by omega) (by rw [hu]; simp only [jlit, jadd]; congr 1) (fun c hc => by rw [uI_n hc]; exact e1 c hc) e2 (fun k hk => ?_)
      by_cases q : k = i
      · rw [q, uI_at]
      · rw [uI_ne (Or.inr q)]
        exact e3 k (by omega)
  refine vX12_begins [(2, [0, 1])] 20 ?_
  exact rul 14 0 _ σ (by omega) rfl (fun _ _ => rfl) rfl (fun k hk => by omega)
theorem stpD_de (ru : Nat → Int) : ∀ (L : Pl) (W : Wk) (D : Nat → Nat → Int), ∃ D', L.foldl (stpD ru) (W.deeds D) = W.deeds D'
  | [], W, D => ⟨D, rfl⟩
  | q :: L, W, D => by
    rw [List.foldl_cons]
    have : ∃ D2, stpD ru (W.deeds D) q = W.deeds D2 := by
      unfold stpD
      split
      · exact ⟨_, rfl⟩
      · exact ⟨D, rfl⟩
    obtain ⟨D2, h2⟩ := this
    rw [h2]
    exact stpD_de ru L W D2
theorem c_tellsPolicy {L : Pl} {ru r : Nat → Int} {W : Wk} {had : Nat} (hE : ME σ ru) (hI : σ.1 98 17 = 1) (hL : LPd σ L) (hW : PW 2 had L r) (hM : Mr σ ru 108 W)
    (hq : ∀ τ : Mm, (∀ c, c ≠ 108 → τ.1 c = σ.1 c) → τ.2 = σ.2 → (∀ j, 313 ≤ j → τ.1 108 j = σ.1 108 j) → Mr τ ru 108 (wPolT ru W L) → Q (some (.int (jI (allN (wNz (wPolT ru W L)) (ru 1).toNat : Int)))) τ) : MW l G (d + 3) mX12_tellsPolicy [.ref 98] σ Q := by
  have hr := hE.1
  have hr' := hr
  unfold RB at hr'
  have hl3 := hW.2.2 3 (by omega) (by omega)
  have li3 : limB 3 = 24 := rfl
  have e3L : fl 3 L = L := by
    unfold fl
    rw [List.filter_eq_self]
    intro q hq9
    have := (hW.2.1 q hq9).2.1.2 rfl
    simp [this]
  have hL3 := hL.2
  have hL1 := hL.1
  unfold LR at hL3
  rw [e3L] at hL3 hL1 hl3
  let F : Nat → Wk := fun i => (L.take i).foldl (stpD ru) (W.deeds (fun _ _ => 0))
  have hDN : ∀ i, DN ru (F i).de := by
    intro i
    have : ∀ (M : Pl) (V : Wk), DN ru V.de → DN ru (M.foldl (stpD ru) V).de := by
      intro M
      induction M with
      | nil => intro V h; exact h
      | cons q M ih => intro V h; rw [List.foldl_cons]; exact ih _ (DN_stp h)
    exact this _ _ (fun _ _ _ => rfl)
  obtain ⟨V, hV⟩ : ∃ V, V = wPolT ru W L := ⟨_, rfl⟩
  have hVF : V = F L.length := by rw [hV]; show _ = (L.take L.length).foldl _ _; rw [List.take_length]; rfl
  rw [← hV] at hq
  have hDV : DN ru V.de := by rw [hVF]; exact hDN _
  -- counted
  have cnt : ∀ τ : Mm, (∀ c, c ≠ 108 → τ.1 c = σ.1 c) → τ.2 = σ.2 → (∀ j, j < 169 → τ.1 108 j = σ.1 108 j) → (∀ j, 313 ≤ j → τ.1 108 j = σ.1 108 j) → (∀ k, k < 144 → τ.1 108 (169 + k) = jI (V.de (k / 12) (k % 12))) → (∀ t h, 0 ≤ V.de t h ∧ V.de t h ≤ 2) → ∀ (m i : Nat) (a u : Int32), i + m = 144 → a = jI (rowN (fun k => wNz V (k / 12) (k % 12)) i : Int) → u = jI (i : Int) → Wp l G (d + 3) mX12_tellsPolicy 111 [(0, .ref 98), (1, .int a), (2, .int u)] [] τ Q := by
    intro τ e1 e2 e3 e4 e5 e6 m
    induction m with
    | zero =>
      intro i a u hm ha hu
      refine wX12_tellsPolicy [] 60 ?_
      refine brle 144 (i : Int) (fun _ => ?_) (fun q => by omega) (hx := rfl) (hy := hu)
      have hMV : Mr τ ru 108 V := by
        obtain ⟨D, hD⟩ := stpD_de ru L W (fun _ _ => 0)
        have hVD : V = W.deeds D := by rw [hV]; exact hD
        rw [hVD]
        refine hM.de0 (fun k hk => e3 k hk) (fun t h ht hh => ?_) hr
        have := e5 (12 * t + h) (by omega)
        rw [show (12 * t + h) / 12 = t by omega, show (12 * t + h) % 12 = h by omega, hVD] at this
        exact this
      have := hq τ e1 e2 e4 hMV
      rw [← flat_all (by omega) hDV, show 144 = i by omega, ← ha] at this
      exact this
    | succ m ih =>
      intro i a u hm ha hu
      have hb := e6 (i / 12) (i % 12)
      have hle := rowN_le (g := fun k => wNz V (k / 12) (k % 12)) (fun k => wNz_le V _ _) i
      have hnx : rowN (fun k => wNz V (k / 12) (k % 12)) (i + 1) = rowN (fun k => wNz V (k / 12) (k % 12)) i + wNz V (i / 12) (i % 12) := rfl
      refine wX12_tellsPolicy [(111, [0, 1, 2])] 60 ?_
      refine brle 144 (i : Int) (fun q => by omega) (fun _ => ?_) (hx := rfl) (hy := hu)
      refine ldI 494 (169 + i) (e5 i (by omega)) ?_ (hi := by rw [hu]; simp only [jlit, jadd]; congr 1)
      refine breq (V.de (i / 12) (i % 12)) 0 (fun q => ?_) (fun q => ?_) (hx := rfl) (hy := rfl)
      · refine ih (i + 1) _ _ (by omega) ?_ (by rw [hu]; simp only [jlit, jadd]; congr 1)
        have e0 : wNz V (i / 12) (i % 12) = 0 := by unfold wNz; rw [if_pos q]
        rw [ha, hnx, e0]
        simp only [jlit, jadd]
        congr 1
      · refine ih (i + 1) _ _ (by omega) ?_ (by rw [hu]; simp only [jlit, jadd]; congr 1)
        have e0 : wNz V (i / 12) (i % 12) = 1 := by unfold wNz; rw [if_neg q]
        rw [ha, hnx, e0]
        simp only [jlit, jadd]
        congr 1
  have parts : ∀ (m i : Nat) (u : Int32) (τ : Mm), i + m = L.length → u = jI (i : Int) → (∀ c, c ≠ 108 → τ.1 c = σ.1 c) → τ.2 = σ.2 → (∀ j, j < 169 → τ.1 108 j = σ.1 108 j) → (∀ j, 313 ≤ j → τ.1 108 j = σ.1 108 j) → (∀ k, k < 144 → τ.1 108 (169 + k) = jI ((F i).de (k / 12) (k % 12))) → (∀ t h, 0 ≤ (F i).de t h ∧ (F i).de t h ≤ 2) → Wp l G (d + 3) mX12_tellsPolicy 30 [(0, .ref 98), (1, .int 0), (2, .int u)] [] τ Q := by
    intro m
    induction m with
    | zero =>
      intro i u τ hm hu e1 e2 e3 e4 e5 e6
      have p : τ.1 98 15 = jI (L.length : Int) := by rw [e1 98 (by decide)]; exact hL1
      refine wX12_tellsPolicy [(111, [0, 1, 2])] 60 ?_
      refine brle (L.length : Int) (i : Int) (fun _ => ?_) (fun q => by omega) (hx := p) (hy := hu)
      rw [show i = L.length by omega, ← hVF] at e5 e6
      exact cnt τ e1 e2 e3 e4 e5 e6 144 0 _ _ (by omega) rfl rfl
    | succ m ih =>
      intro i u τ hm hu e1 e2 e3 e4 e5 e6
      have p : τ.1 98 15 = jI (L.length : Int) := by rw [e1 98 (by decide)]; exact hL1
      obtain ⟨q, hqi⟩ : ∃ q, L[i]? = some q := ⟨_, List.getElem?_eq_getElem (by omega)⟩
      have hmem := List.mem_of_getElem? hqi
      have hwq := hW.2.1 q hmem
      have q3 : q.1 = 3 := hwq.2.1.2 rfl
      have hb := bd3 (by have := hwq.2.2; rw [q3] at this; exact this)
      have hR := fun w hw => hL3 i q hqi w hw
      have w0 : τ.1 104 (3 * i) = jI (q.2 0) := by rw [e1 104 (by decide)]; exact hR 0 (by decide)
      have w1 : τ.1 104 (3 * i + 1) = jI (q.2 1) := by rw [e1 104 (by decide)]; exact hR 1 (by decide)
      have w2 : τ.1 104 (3 * i + 2) = jI (q.2 2) := by rw [e1 104 (by decide)]; exact hR 2 (by decide)
      have hF : F (i + 1) = stpD ru (F i) q := by
        show (L.take (i + 1)).foldl _ _ = _
        rw [List.take_add_one, hqi, List.foldl_append]
        rfl
      have go : ∀ ρ : Mm, (∀ c, c ≠ 108 → ρ.1 c = σ.1 c) → ρ.2 = σ.2 → (∀ j, j < 169 → ρ.1 108 j = σ.1 108 j) → (∀ j, 313 ≤ j → ρ.1 108 j = σ.1 108 j) → (∀ k, k < 144 → ρ.1 108 (169 + k) = jI ((stpD ru (F i) q).de (k / 12) (k % 12))) → (∀ t h, 0 ≤ (stpD ru (F i) q).de t h ∧ (stpD ru (F i) q).de t h ≤ 2) → Wp l G (d + 3) mX12_tellsPolicy 30 [(0, .ref 98), (1, .int 0), (2, .int (u + 1))] [] ρ Q := by
        intro ρ f1 f2 f3 f4 f5 f6
        rw [← hF] at f5 f6
        exact ih (i + 1) _ ρ (by omega) (by rw [hu]; simp only [jlit, jadd]; congr 1) f1 f2 f3 f4 f5 f6
      unfold stpD at go
      refine wX12_tellsPolicy [(30, [0, 1, 2])] 80 ?_
      refine brle (L.length : Int) (i : Int) (fun q => by omega) (fun _ => ?_) (hx := p) (hy := hu)
      refine ldI 72 (3 * i) w0 ?_ (hi := by rw [hu]; simp only [jlit, jmul]; congr 1)
      refine ldI 72 (3 * i + 1) w1 ?_ (hi := by rw [hu]; simp only [jlit, jmul, jadd]; congr 1)
      refine c_isNode (q.2 0) (q.2 1) (by rw [e1 98 (by decide)]; exact hI) (hE.fr (e1 101 (by decide))) (by omega) (by omega) ?_ rfl rfl
      refine brz _ (fun z => ?_) (fun z => ?_)
      · rw [if_neg z] at go
        exact go τ e1 e2 e3 e4 e5 e6
      · rw [if_pos z] at go
        refine ldI 72 (3 * i) w0 ?_ (hi := by rw [hu]; simp only [jlit, jmul]; congr 1)
        refine ldI 72 (3 * i + 1) w1 ?_ (hi := by rw [hu]; simp only [jlit, jmul, jadd]; congr 1)
        refine c_node (q.2 0) (q.2 1) ?_ rfl rfl
        refine ldI 72 (3 * i + 2) w2 ?_ (hi := by rw [hu]; simp only [jlit, jmul, jadd]; congr 1)
        refine stI 494 (169 + (12 * (q.2 0).toNat + (q.2 1).toNat)) ?_ (hi := by simp only [jlit, jadd]; congr 1; omega)
        refine go _ (fun c hc => by rw [uI_n hc]; exact e1 c hc) e2 (fun j hj => by rw [uI_ne (Or.inr (by omega))]; exact e3 j hj) (fun j hj => by rw [uI_ne (Or.inr (by omega))]; exact e4 j hj) (fun k hk => ?_) (fun t h => ?_)
        · show _ = jI (if k / 12 = (q.2 0).toNat ∧ k % 12 = (q.2 1).toNat then q.2 2 else (F i).de (k / 12) (k % 12))
          by_cases y : k / 12 = (q.2 0).toNat ∧ k % 12 = (q.2 1).toNat
          · rw [if_pos y, show 169 + k = 169 + (12 * (q.2 0).toNat + (q.2 1).toNat) by omega, uI_at]
          · rw [if_neg y, uI_ne (Or.inr (by omega))]
            exact e5 k hk
        · show 0 ≤ (if t = (q.2 0).toNat ∧ h = (q.2 1).toNat then q.2 2 else (F i).de t h) ∧ (if t = (q.2 0).toNat ∧ h = (q.2 1).toNat then q.2 2 else (F i).de t h) ≤ 2
          split
          · exact hb.2.2
          · exact e6 t h
  have zer : ∀ (m i : Nat) (u : Int32) (τ : Mm), i + m = 144 → u = jI (i : Int) → (∀ c, c ≠ 108 → τ.1 c = σ.1 c) → τ.2 = σ.2 → (∀ j, j < 169 → τ.1 108 j = σ.1 108 j) → (∀ j, 313 ≤ j → τ.1 108 j = σ.1 108 j) → (∀ k, k < i → τ.1 108 (169 + k) = 0) → Wp l G (d + 3) mX12_tellsPolicy 4 [(0, .ref 98), (1, .int 0), (2, .int u)] [] τ Q := by
    intro m
    induction m with
    | zero =>
      intro i u τ hm hu e1 e2 e3 e4 e5
      refine wX12_tellsPolicy [(30, [0, 1, 2])] 60 ?_
      refine brle 144 (i : Int) (fun _ => ?_) (fun q => by omega) (hx := rfl) (hy := hu)
      exact parts L.length 0 _ τ (by omega) rfl e1 e2 e3 e4 (fun k hk => by rw [e5 k (by omega)]; rfl) (fun t h => by show (0 : Int) ≤ 0 ∧ (0 : Int) ≤ 2; omega)
    | succ m ih =>
      intro i u τ hm hu e1 e2 e3 e4 e5
      refine wX12_tellsPolicy [(4, [0, 1, 2])] 60 ?_
      refine brle 144 (i : Int) (fun q => by omega) (fun _ => ?_) (hx := rfl) (hy := hu)
      refine stI 494 (169 + i) ?_ (hi := by rw [hu]; simp only [jlit, jadd]; congr 1)
      refine ih (i + 1) _ _ (by omega) (by rw [hu]; simp only [jlit, jadd]; congr 1) (fun c hc => by rw [uI_n hc]; exact e1 c hc) e2 (fun j hj => by rw [uI_ne (Or.inr (by omega))]; exact e3 j hj) (fun j hj => by rw [uI_ne (Or.inr (by omega))]; exact e4 j hj) (fun k hk => ?_)
      by_cases q : k = i
      · rw [q, uI_at]
      · rw [uI_ne (Or.inr (by omega))]
        exact e5 k (by omega)
  refine vX12_tellsPolicy [(4, [0, 1, 2])] 20 ?_
  exact zer 144 0 _ σ (by omega) rfl (fun _ _ => rfl) rfl (fun _ _ => rfl) (fun _ _ => rfl) (fun k hk => by omega)
end MBg
