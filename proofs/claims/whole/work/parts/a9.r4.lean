-- a loan, a policy, a script taken: the class
theorem Kr_zero {σ : Mm} (h : ∀ j, j < 115 → σ.1 2 j = 0) : Kr σ 2 (fun _ => 0, fun _ => 0, fun _ _ => 0, fun _ _ => 0) := by
  refine ⟨fun k hk => by rw [h k (by omega)]; rfl, ?_, ?_, ?_, fun j q1 q2 => ?_, fun j q1 q2 => ?_, fun t k q1 q2 => ?_⟩
  · funext j
    show (if j < 13 then (σ.1 2 (12 + j)).toInt else 0) = 0
    split
    · rw [h _ (by omega)]; rfl
    · rfl
  · funext t k
    show (if k ≤ t ∧ t < 12 then bnd ((σ.1 2 (25 + nd t k)).toInt + 0) else 0) = 0
    split
    · next q =>
      have := nd_lt2 q.2 q.1
      rw [h _ (by omega)]; rfl
    · rfl
  · funext t k
    show (if k ≤ t ∧ t < 12 then ((σ.1 2 (103 + t) >>> ((2 * jI k) &&& 31)) &&& 3).toInt else 0) = 0
    split
    · next q =>
      rw [h _ (by omega)]
      have e : ∀ x : Int32, ((0 : Int32) >>> x) &&& 3 = 0 := by
        intro x
        apply Int32.toBitVec_inj.mp
        simp
      rw [e]; rfl
    · rfl
  · rw [h j (by omega)]
    exact ⟨by decide, by decide⟩
  · rw [h j (by omega)]
    exact ⟨by decide, by decide⟩
  · show 0 ≤ (if k ≤ t ∧ t < 12 then ((σ.1 2 (103 + t) >>> ((2 * jI k) &&& 31)) &&& 3).toInt else 0) ∧ (if k ≤ t ∧ t < 12 then ((σ.1 2 (103 + t) >>> ((2 * jI k) &&& 31)) &&& 3).toInt else 0) ≤ 2
    rw [h _ (by omega)]
    have e : ∀ x : Int32, ((0 : Int32) >>> x) &&& 3 = 0 := by
      intro x
      apply Int32.toBitVec_inj.mp
      simp
    rw [e]
    split <;> exact ⟨by decide, by decide⟩
section KTl
variable {l : Launch} {G : GT} {d : Nat} {σ : Mm} {Q : Po} {T : Tp}
theorem k_takeClause1 {u x y z : Int32} (r a b : Int) (h : σ.1 1 1 = jI r) (hr : 0 ≤ r ∧ r ≤ 12) (ha : 1 ≤ a ∧ a ≤ 12) (hq : Q none (if a < r then uI σ 2 (12 + a.toNat) (jI b) else σ)) (eu : u = jI 1 := by first | rfl | assumption | (simp only [jlit, jneg, jadd, jsub, jmul]; done) | (simp only [jlit, jneg, jadd, jsub, jmul]; congr 1 <;> omega) | (congr 1 <;> omega)) (ex : x = jI a := by first | rfl | assumption | (simp only [jlit, jneg, jadd, jsub, jmul]; done) | (simp only [jlit, jneg, jadd, jsub, jmul]; congr 1 <;> omega) | (congr 1 <;> omega)) (ey : y = jI b := by first | rfl | assumption | (simp only [jlit, jneg, jadd, jsub, jmul]; done) | (simp only [jlit, jneg, jadd, jsub, jmul]; congr 1 <;> omega) | (congr 1 <;> omega)) : MW l G (d + 1) mX11_takeClause [.ref 0, .int u, .int x, .int y, .int z] σ Q := by
  refine vX11_takeClause [] 60 ?_
  refine breq 1 1 (fun _ => ?_) (fun q => absurd rfl q) (hx := eu) (hy := rfl)
  refine brlt a 1 (fun q => by omega) (fun _ => ?_) (hx := ex) (hy := rfl)
  refine ldI 14 1 h ?_ (hi := rfl)
  refine brle r a (fun q => ?_) (fun q => ?_) (hx := rfl) (hy := ex)
  · refine breq 1 2 (fun q => by omega) (fun _ => ?_) (hx := eu) (hy := rfl)
    rw [if_neg (by omega)] at hq
    exact hq
  · refine stI 115 (12 + a.toNat) ?_ (hi := by rw [ex]; simp only [jlit, jadd]; congr 1; omega)
    refine breq 1 2 (fun q => by omega) (fun _ => ?_) (hx := eu) (hy := rfl)
    rw [if_pos (by omega), ← ey] at hq
    exact hq
theorem k_takeClause2 {u x y z : Int32} (r a b c : Int) (h : σ.1 1 1 = jI r) (hr : 0 ≤ r ∧ r ≤ 12) (ha : 0 ≤ a ∧ a ≤ 11) (hb : 0 ≤ b ∧ b ≤ 11) (hq : Q none (if 0 ≤ a ∧ a < r ∧ 0 ≤ b ∧ b ≤ a then uI σ 2 (25 + nd a.toNat b.toNat) (jI c) else σ)) (eu : u = jI 2 := by first | rfl | assumption | (simp only [jlit, jneg, jadd, jsub, jmul]; done) | (simp only [jlit, jneg, jadd, jsub, jmul]; congr 1 <;> omega) | (congr 1 <;> omega)) (ex : x = jI a := by first | rfl | assumption | (simp only [jlit, jneg, jadd, jsub, jmul]; done) | (simp only [jlit, jneg, jadd, jsub, jmul]; congr 1 <;> omega) | (congr 1 <;> omega)) (ey : y = jI b := by first | rfl | assumption | (simp only [jlit, jneg, jadd, jsub, jmul]; done) | (simp only [jlit, jneg, jadd, jsub, jmul]; congr 1 <;> omega) | (congr 1 <;> omega)) (ez : z = jI c := by first | rfl | assumption | (simp only [jlit, jneg, jadd, jsub, jmul]; done) | (simp only [jlit, jneg, jadd, jsub, jmul]; congr 1 <;> omega) | (congr 1 <;> omega)) : MW l G (d + 1) mX11_takeClause [.ref 0, .int u, .int x, .int y, .int z] σ Q := by
  refine vX11_takeClause [] 60 ?_
  refine breq 2 1 (fun q => by omega) (fun _ => ?_) (hx := eu) (hy := rfl)
  refine breq 2 2 (fun _ => ?_) (fun q => absurd rfl q) (hx := eu) (hy := rfl)
  refine k_isNode r a b h hr (by omega) (by omega) ?_ ex ey
  refine brz _ (fun q => ?_) (fun q => ?_)
  · rw [if_neg q] at hq
    exact hq
  · rw [if_pos q] at hq
    refine k_nodeOf a.toNat b.toNat ?_ (by rw [ex]; congr 1; omega) (by rw [ey]; congr 1; omega)
    have hn := nd_lt2 (t := a.toNat) (h := b.toNat) (by omega) (by omega)
    refine stI 115 (25 + nd a.toNat b.toNat) ?_ (hi := by simp only [jlit, jadd]; congr 1)
    rw [← ez] at hq
    exact hq
theorem k_forget (hq : Q none (uI σ 15 11 1)) : MW l G d mX8_forget [.ref 15] σ Q := by
  refine vX8_forget [] 20 ?_
  exact And.intro (Or.inr rfl) hq
theorem k_clear (hq : Q none (uI (uI (uI (uI σ 64 0 0) 64 5 0) 64 6 0) 64 8 0)) : MW l G d mX2_clear [.ref 64] σ Q := by
  refine vX2_clear [] 40 ?_
  exact And.intro (Or.inl rfl) hq
/-- a part as it was told, or what lies there -/
theorem k_partL {L : Pl} {x y : Int32} {q : Nat × (Nat → Int)} (hP : PK σ L) (hl : L.length ≤ 28) (i w : Nat) (hi : L[i]? = some q) (hw : w < 4) (hq : Q (some (.int (σ.1 10 (4 * i + w)))) σ) (ex : x = jI (i : Int) := by first | rfl | assumption | (simp only [jlit, jneg, jadd, jsub, jmul]; done) | (simp only [jlit, jneg, jadd, jsub, jmul]; congr 1 <;> omega) | (congr 1 <;> omega)) (ey : y = jI (w : Int) := by first | rfl | assumption | (simp only [jlit, jneg, jadd, jsub, jmul]; done) | (simp only [jlit, jneg, jadd, jsub, jmul]; congr 1 <;> omega) | (congr 1 <;> omega)) : MW l G d mX4_part [.ref 8, .int x, .int y] σ Q := k_part L.length i w hP.1 hl (List.getElem?_eq_some_iff.mp hi).1 hw rfl hq ex ey
theorem k_takeLoan {L : Pl} {ru : Nat → Int} {had : Nat} (hP : PK σ L) (hW : PW 0 had L ru) (h9 : ∀ j, j < 14 → σ.1 9 j = jI (ru j))
    (hq : ∀ τ : Mm, (∀ c, c ∉ [1, 2, 15, 64] → τ.1 c = σ.1 c) → τ.2 = σ.2 → (∀ k, k ≠ 11 → τ.1 15 k = σ.1 15 k) → RC τ ru → τ.1 15 11 = 1 → Kr τ 2 (wLoan ru L) → τ.1 64 0 = 0 → τ.1 64 5 = 0 → τ.1 64 6 = 0 → τ.1 64 8 = 0 → Q (some (.int (jI (ru 1)))) τ) : MW l G (d + 3) mX11_takeLoan [.ref 0] σ Q := by
  have hr : RB ru := RB_bd hW.1.2
  have hr' := hr
  unfold RB at hr'
  have hll := hW.len
  obtain ⟨N, hN⟩ : ∃ N : Nat, (N : Int) = ru 1 := ⟨(ru 1).toNat, by omega⟩
  -- what stays
  let I : Mm → Prop := fun τ => (∀ c, c ∉ [1, 2] → τ.1 c = σ.1 c) ∧ τ.2 = σ.2 ∧ (∀ k, k < 14 → τ.1 1 k = jI (ru k))
  have Iu : ∀ τ k v, I τ → I (uI τ 2 k v) := fun τ k v h => ⟨fun c hc => by rw [uI_n (by intro e; rw [e] at hc; exact hc (by decide))]; exact h.1 c hc, h.2.1, fun k hk => by rw [uI_n (by decide)]; exact h.2.2 k hk⟩
  -- the clauses
  have parts : ∀ (m i : Nat) (u v : Int32) (τ : Mm), i + m = L.length → u = jI (i : Int) → v = jI (ru 1) → I τ → Kr τ 2 ((L.take i).foldl (stpW ru) (W00 ru)) → Wp l G (d + 3) mX11_takeLoan 138 [(0, .ref 0), (1, .int v), (2, .int u)] [] τ Q := by
    intro m
    induction m with
    | zero =>
      intro i u v τ hm hu hv hI hK
      have p2 : τ.1 8 2 = jI (L.length : Int) := by rw [hI.1 8 (by decide)]; exact hP.1
      refine wX11_takeLoan [] 60 ?_
      refine brle (L.length : Int) (i : Int) (fun _ => ?_) (fun q => by omega) (hx := p2) (hy := hu)
      refine k_clear ?_
      refine k_forget ?_
      rw [List.take_of_length_le (by omega)] at hK
      have hc : ∀ c, c ≠ 15 → c ≠ 64 → (uI (uI (uI (uI (uI τ 64 0 0) 64 5 0) 64 6 0) 64 8 0) 15 11 1).1 c = τ.1 c := fun c k1 k2 => by rw [uI_n k1, uI_n k2, uI_n k2, uI_n k2, uI_n k2]
      have := hq (uI (uI (uI (uI (uI τ 64 0 0) 64 5 0) 64 6 0) 64 8 0) 15 11 1) (fun c hcc => ?_) hI.2.1 (fun k hk => ?_) ⟨hr, fun k hk => by rw [hc 1 (by decide) (by decide)]; exact hI.2.2 k hk⟩ (uI_at _ _ _ _) (hK.fr (hc 2 (by decide) (by decide))) ?_ ?_ ?_ ?_
      · rw [hv]
        exact this
      · simp only [List.mem_cons, List.not_mem_nil, or_false, not_or] at hcc
        rw [hc c hcc.2.2.1 hcc.2.2.2]
        exact hI.1 c (by simp only [List.mem_cons, List.not_mem_nil, or_false, not_or]; exact ⟨hcc.1, hcc.2.1⟩)
      · rw [uI_ne (Or.inr hk), uI_n (by decide), uI_n (by decide), uI_n (by decide), uI_n (by decide), hI.1 15 (by decide)]
      · rw [uI_n (by decide), uI_ne (Or.inr (by decide)), uI_ne (Or.inr (by decide)), uI_ne (Or.inr (by decide)), uI_at]
      · rw [uI_n (by decide), uI_ne (Or.inr (by decide)), uI_ne (Or.inr (by decide)), uI_at]
      · rw [uI_n (by decide), uI_ne (Or.inr (by decide)), uI_at]
      · rw [uI_n (by decide), uI_at]
    | succ m ih =>
      intro i u v τ hm hu hv hI hK
      have hPt : PK τ L := ⟨by rw [hI.1 8 (by decide)]; exact hP.1, fun i q h => by rw [hI.1 10 (by decide)]; exact hP.2 i q h⟩
      obtain ⟨q, hqi⟩ : ∃ q, L[i]? = some q := ⟨_, List.getElem?_eq_getElem (by omega)⟩
      have hmem := List.mem_of_getElem? hqi
      have hPq := hPt.2 i q hqi
      have hwq := hW.2.1 q hmem
      have htake : L.take (i + 1) = L.take i ++ [q] := by
        rw [List.take_add_one, hqi]
        rfl
      have e1 : τ.1 1 1 = jI (ru 1) := hI.2.2 1 (by omega)
      refine wX11_takeLoan [(138, [0, 1, 2])] 60 ?_
      refine brle (L.length : Int) (i : Int) (fun q => by omega) (fun _ => ?_) (hx := hPt.1) (hy := hu)
      refine k_partL hPt hll i 0 hqi (by omega) ?_ hu rfl
      refine k_partL hPt hll i 1 hqi (by omega) ?_ hu rfl
      refine k_partL hPt hll i 2 hqi (by omega) ?_ hu rfl
      refine k_partL hPt hll i 3 hqi (by omega) ?_ hu rfl
      have go : ∀ ρ, I ρ → Kr ρ 2 (stpW ru ((L.take i).foldl (stpW ru) (W00 ru)) q) → Wp l G (d + 3) mX11_takeLoan 138 [(0, .ref 0), (1, .int v), (2, .int (u + 1))] [] ρ Q := by
        intro ρ hIρ hKρ
        refine ih (i + 1) _ v ρ (by omega) (by rw [hu]; simp only [jlit, jadd]; congr 1) hv hIρ ?_
        rw [htake, List.foldl_append]
        exact hKρ
      have hq12 : q.1 = 1 ∨ q.1 = 2 := by
        have := hwq.2.1
        omega
      rcases hq12 with e | e
      · have hb := bd1 (by have := hwq.2.2; rw [e] at this; exact this)
        rw [e] at hPq
        have w0 := hPq.2 0 (by decide)
        have w1 := hPq.2 1 (by decide)
        refine k_takeClause1 (ru 1) (q.2 0) (q.2 1) e1 (by omega) hb.1 ?_ (by rw [Nat.add_zero]; exact hPq.1) w0 w1
        unfold stpW at go
        rw [if_pos e] at go
        by_cases z : q.2 0 < ru 1
        · rw [if_pos z]
          rw [if_pos z] at go
          exact go _ (Iu _ _ _ hI) (hK.putA (q.2 0).toNat (q.2 1) (by omega) hb.2 rfl)
        · rw [if_neg z]
          rw [if_neg z] at go
          exact go _ hI hK
      · have hb := bd2 (by have := hwq.2.2; rw [e] at this; exact this)
        rw [e] at hPq
        have w0 := hPq.2 0 (by decide)
        have w1 := hPq.2 1 (by decide)
        have w2 := hPq.2 2 (by decide)
        refine k_takeClause2 (ru 1) (q.2 0) (q.2 1) (q.2 2) e1 (by omega) hb.1 hb.2.1 ?_ (by rw [Nat.add_zero]; exact hPq.1) w0 w1 w2
        unfold stpW at go
        rw [if_neg (by omega), if_pos e] at go
        by_cases z : isN ru (q.2 0) (q.2 1)
        · rw [if_pos z]
          rw [if_pos z] at go
          exact go _ (Iu _ _ _ hI) (hK.putR (q.2 0).toNat (q.2 1).toNat (q.2 2) (by omega) (by omega) hb.2.2 rfl)
        · rw [if_neg z]
          rw [if_neg z] at go
          exact go _ hI hK
  -- the rates
  let B : Nat → Nat → Wk := fun t k => ((W00 ru).1, (W00 ru).2.1, (fun i j => if i < t ∨ i = t ∧ j < k then bsR ru i j else 0), (W00 ru).2.2.2)
  have row : ∀ (m t k : Nat) (u v w : Int32) (τ : Mm), k + m = t + 1 → t < N → u = jI (t : Int) → v = jI (ru 1) → w = jI (k : Int) → I τ → Kr τ 2 (B t k) → (∀ τ', I τ' → Kr τ' 2 (B (t + 1) 0) → Wp l G (d + 3) mX11_takeLoan 60 [(0, .ref 0), (1, .int v), (2, .int (u + 1))] [] τ' Q) → Wp l G (d + 3) mX11_takeLoan 73 [(0, .ref 0), (1, .int v), (2, .int u), (3, .int w)] [] τ Q := by
    intro m
    induction m with
    | zero =>
      intro t k u v w τ hm ht hu hv hw hI hK hgo
      refine wX11_takeLoan [(60, [0, 1, 2])] 60 ?_
      refine brlt (t : Int) (k : Int) (fun _ => ?_) (fun q => by omega) (hx := hu) (hy := hw)
      refine hgo τ hI ?_
      have : B (t + 1) 0 = B t k := by
        show ((W00 ru).1, (W00 ru).2.1, (fun i j => if i < t + 1 ∨ i = t + 1 ∧ j < 0 then bsR ru i j else 0), (W00 ru).2.2.2) = ((W00 ru).1, (W00 ru).2.1, (fun i j => if i < t ∨ i = t ∧ j < k then bsR ru i j else 0), (W00 ru).2.2.2)
        congr 2
        congr 1
        funext i j
        by_cases q : i < t + 1
        · rw [if_pos (Or.inl q)]
          by_cases q2 : i < t ∨ i = t ∧ j < k
          · rw [if_pos q2]
          · rw [if_neg q2]
            unfold bsR
            rw [if_neg (by omega)]
        · rw [if_neg (by omega), if_neg (by omega)]
      rw [this]
      exact hK
    | succ m ih =>
      intro t k u v w τ hm ht hu hv hw hI hK hgo
      have hz : ∀ j, j < 14 → τ.1 1 j = jI (ru j) := hI.2.2
      have m1 : 0 ≤ (k : Int) * ru 4 ∧ (k : Int) * ru 4 ≤ 12 * 99 := mul_le_c (by omega) (by omega) (by omega) (by omega)
      have m2 : 0 ≤ ((t : Int) - k) * ru 5 ∧ ((t : Int) - k) * ru 5 ≤ 12 * 99 := mul_le_c (by omega) (by omega) (by omega) (by omega)
      refine wX11_takeLoan [(73, [0, 1, 2, 3])] 80 ?_
      refine brlt (t : Int) (k : Int) (fun q => by omega) (fun _ => ?_) (hx := hu) (hy := hw)
      refine ldI 14 3 (hz 3 (by omega)) ?_ (hi := rfl)
      refine ldI 14 4 (hz 4 (by omega)) ?_ (hi := rfl)
      refine ldI 14 5 (hz 5 (by omega)) ?_ (hi := rfl)
      refine k_nodeOf t k ?_ hu hw
      refine k_bounded (ru 3 + (k : Int) * ru 4 - ((t : Int) - k) * ru 5) (by omega) ?_ (by rw [hu, hw]; simp only [jadd, jsub, jmul])
      have hn := nd_lt2 (t := t) (h := k) (by omega) (by omega)
      refine stI 115 (25 + nd t k) ?_ (hi := by simp only [jlit, jadd]; congr 1)
      have hbn := bnd_in (ru 3 + (k : Int) * ru 4 - ((t : Int) - k) * ru 5)
      have hK2 := hK.putR t k (bnd (ru 3 + (k : Int) * ru 4 - ((t : Int) - k) * ru 5)) (by omega) (by omega) hbn rfl
      have : (B t k).putR t k (bnd (ru 3 + (k : Int) * ru 4 - ((t : Int) - k) * ru 5)) = B t (k + 1) := by
        show ((W00 ru).1, (W00 ru).2.1, (fun i j => if i = t ∧ j = k then bnd (ru 3 + (k : Int) * ru 4 - ((t : Int) - k) * ru 5) else if i < t ∨ i = t ∧ j < k then bsR ru i j else 0), (W00 ru).2.2.2) = ((W00 ru).1, (W00 ru).2.1, (fun i j => if i < t ∨ i = t ∧ j < k + 1 then bsR ru i j else 0), (W00 ru).2.2.2)
        congr 2
        congr 1
        funext i j
        by_cases q : i = t ∧ j = k
        · rw [if_pos q, if_pos (by omega), q.1, q.2]
          unfold bsR
          rw [if_pos (by omega)]
        · rw [if_neg q]
          by_cases q2 : i < t ∨ i = t ∧ j < k
          · rw [if_pos q2, if_pos (by omega)]
          · rw [if_neg q2, if_neg (by omega)]
      rw [this] at hK2
      exact ih t (k + 1) u v _ _ (by omega) ht hu hv (by rw [hw]; simp only [jlit, jadd]; congr 1) (Iu _ _ _ hI) hK2 hgo
  have outer : ∀ (m t : Nat) (u v : Int32) (τ : Mm), t + m = N → u = jI (t : Int) → v = jI (ru 1) → I τ → Kr τ 2 (B t 0) → Wp l G (d + 3) mX11_takeLoan 60 [(0, .ref 0), (1, .int v), (2, .int u)] [] τ Q := by
    intro m
    induction m with
    | zero =>
      intro t u v τ hm hu hv hI hK
      refine wX11_takeLoan [(138, [0, 1, 2])] 60 ?_
      refine brle (ru 1) (t : Int) (fun _ => ?_) (fun q => by omega) (hx := hv) (hy := hu)
      refine parts L.length 0 _ v τ (by omega) rfl hv hI ?_
      have : B t 0 = W00 ru := by
        show ((W00 ru).1, (W00 ru).2.1, (fun i j => if i < t ∨ i = t ∧ j < 0 then bsR ru i j else 0), (W00 ru).2.2.2) = ((W00 ru).1, (W00 ru).2.1, (W00 ru).2.2.1, (W00 ru).2.2.2)
        congr 2
        congr 1
        funext i j
        show _ = bsR ru i j
        by_cases q : i < t ∨ i = t ∧ j < 0
        · rw [if_pos q]
        · rw [if_neg q]
          unfold bsR
          rw [if_neg (by omega)]
      rw [this] at hK
      exact hK
    | succ m ih =>
      intro t u v τ hm hu hv hI hK
      refine wX11_takeLoan [(73, [0, 1, 2, 3])] 60 ?_
      refine brle (ru 1) (t : Int) (fun q => by omega) (fun _ => ?_) (hx := hv) (hy := hu)
      refine brle 12 (t : Int) (fun q => by omega) (fun _ => ?_) (hx := rfl) (hy := hu)
      exact row (t + 1) t 0 u v _ τ (by omega) (by omega) hu hv rfl hI hK (fun τ' hI' hK' => ih (t + 1) _ v τ' (by omega) (by rw [hu]; simp only [jlit, jadd]; congr 1) hv hI' hK')
  refine vX11_takeLoan [(60, [0, 1, 2])] 80 ?_
  refine cpI (σ := σ) 0 0 14 (by decide) (by decide) (by decide) (by decide) (by decide) (by decide) (by decide) (by decide) (h := fun τ eτ g1 g2 g3 => ?_)
  subst eτ
  have hz : ∀ j, j < 14 → (uR σ 1 (va_cpy (σ.1 9) (σ.1 1) (0 : Int32).toNatClampNeg (0 : Int32).toNatClampNeg (14 : Int32).toNatClampNeg)).1 1 j = jI (ru j) := fun j hj => by
    rw [g3, if_pos (by omega), show 0 + (j - 0) = j by omega]
    exact h9 j hj
  refine ldI 14 1 (hz 1 (by omega)) ?_ (hi := rfl)
  refine c_fill2 (a := 2) (by decide) (by decide) (by decide) (fun τ f1 f2 f3 => ?_)
  have hz2 : ∀ j, j < 14 → τ.1 1 j = jI (ru j) := fun j hj => by rw [f2 1 (by decide)]; exact hz j hj
  refine ldI 14 2 (hz2 2 (by omega)) ?_ (hi := rfl)
  refine stI 115 2 ?_ (hi := rfl)
  refine ldI 14 11 (show _ = jI (ru 11) by rw [uI_n (by decide)]; exact hz2 11 (by omega)) ?_ (hi := rfl)
  refine stI 115 3 ?_ (hi := rfl)
  have hI0 : I τ := ⟨fun c hc => by
    simp only [List.mem_cons, List.not_mem_nil, or_false, not_or] at hc
    rw [f2 c hc.2, g2 c hc.1], f1.trans g1, hz2⟩
  have hK0 : Kr τ 2 (fun _ => 0, fun _ => 0, fun _ _ => 0, fun _ _ => 0) := Kr_zero (fun j hj => by rw [f3 j, if_pos (by show j < 115; omega)])
  have hK1 := (hK0.put 2 (ru 2) (v := jI (ru 2)) (by omega) rfl).put 3 (ru 11) (v := jI (ru 11)) (by omega) rfl
  refine outer N 0 _ _ _ (by omega) rfl rfl (Iu _ _ _ (Iu _ _ _ hI0)) (hK1.ex (fun k hk => ?_) ?_)
  · show (if k = 3 then ru 11 else if k = 2 then ru 2 else 0) = (if k = 2 then ru 2 else if k = 3 then ru 11 else 0)
    by_cases q2 : k = 2
    · rw [if_neg (by omega), if_pos q2, if_pos q2]
    · rw [if_neg q2, if_neg q2]
  · show ((fun _ => 0, fun _ _ => 0, fun _ _ => 0) : (Nat → Int) × (Nat → Nat → Int) × (Nat → Nat → Int)) = ((fun _ => 0), (fun i j => if i < 0 ∨ i = 0 ∧ j < 0 then bsR ru i j else 0), (fun _ _ => 0))
    congr 2
    funext i j
    rw [if_neg (by omega)]
end KTl
