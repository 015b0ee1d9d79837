-- a policy, a script taken: the class
theorem Kr_de0 {σ τ : Mm} {W : Wk} (h : Kr σ 2 W) (e1 : ∀ j, j < 103 → τ.1 2 j = σ.1 2 j) (e2 : ∀ j, 103 ≤ j → j < 115 → τ.1 2 j = 0) : Kr τ 2 (W.deeds (fun _ _ => 0)) := by
  obtain ⟨h1, h2, h3, h4, h5⟩ := h
  have z : ∀ x : Int32, ((0 : Int32) >>> x) &&& 3 = 0 := by
    intro x
    apply Int32.toBitVec_inj.mp
    simp
  have ed : deS τ 2 = fun _ _ => 0 := by
    funext t k
    show (if k ≤ t ∧ t < 12 then ((τ.1 2 (103 + t) >>> ((2 * jI k) &&& 31)) &&& 3).toInt else 0) = 0
    split
    · next q =>
      rw [e2 _ (by omega) (by omega), z]; rfl
    · rfl
  refine ⟨fun k hk => by rw [e1 k (by omega)]; exact h1 k hk, (amS_eq (fun j _ _ => e1 j (by omega))).trans h2, (raS_eq (fun j _ _ => by rw [e1 j (by omega)])).trans h3, ed, fun j q1 q2 => ?_, fun j q1 q2 => ?_, fun t k _ _ => ?_⟩
  · rw [e1 j (by omega)]; exact h5.1 j q1 q2
  · rw [e1 j (by omega)]; exact h5.2.1 j q1 q2
  · rw [ed]
    show (0 : Int) ≤ 0 ∧ (0 : Int) ≤ 2
    omega
theorem Kr.deed {σ : Mm} {a : Nat} {W : Wk} (h : Kr σ a W) {t k : Nat} (ht : t < 12) (hk : k ≤ t) : (σ.1 a (103 + t) >>> ((2 * jI k) &&& 31)) &&& 3 = jI (W.de t k) := by
  rw [← h.2.2.2.1]
  unfold deS
  rw [if_pos ⟨hk, ht⟩, jI_of]
theorem wNz_le (W : Wk) (t h : Nat) : wNz W t h ≤ 1 := by unfold wNz; split <;> omega
/-- one more script -/
def sNew (S : Sc) (L : Pl) : Sc := (S.c + 1, fun s => if s = S.c then L.length else S.sz s, fun i => if 64 * S.c ≤ i then (match L[(i - 64 * S.c) / 4]? with | some q => if (i - 64 * S.c) % 4 = 0 then (q.1 : Int) else q.2 ((i - 64 * S.c) % 4 - 1) | none => 0) else S.2.2 i)
theorem sNew_c (S : Sc) (L : Pl) : (sNew S L).c = S.c + 1 := rfl
theorem sNew_sz (S : Sc) (L : Pl) (s : Nat) : (sNew S L).sz s = if s = S.c then L.length else S.sz s := rfl
theorem sNew_old (S : Sc) (L : Pl) {s i w : Nat} (hs : s < S.c) (hi : i < 16) (hw : w < 4) : (sNew S L).st s i w = S.st s i w := by
  show (if 64 * S.c ≤ 64 * s + 4 * i + w then _ else S.2.2 (64 * s + 4 * i + w)) = S.2.2 (64 * s + 4 * i + w)
  rw [if_neg (by omega)]
theorem sNew_new (S : Sc) (L : Pl) {i w : Nat} {q : Nat × (Nat → Int)} (hq : L[i]? = some q) (hw : w < 4) : (sNew S L).st S.c i w = if w = 0 then (q.1 : Int) else q.2 (w - 1) := by
  show (if 64 * S.c ≤ 64 * S.c + 4 * i + w then (match L[(64 * S.c + 4 * i + w - 64 * S.c) / 4]? with | some q => if (64 * S.c + 4 * i + w - 64 * S.c) % 4 = 0 then (q.1 : Int) else q.2 ((64 * S.c + 4 * i + w - 64 * S.c) % 4 - 1) | none => 0) else S.2.2 (64 * S.c + 4 * i + w)) = _
  rw [if_pos (by omega), show (64 * S.c + 4 * i + w - 64 * S.c) / 4 = i by omega, show (64 * S.c + 4 * i + w - 64 * S.c) % 4 = w by omega, hq]
theorem SB_new {S : Sc} {L : Pl} (h : SB S) (hc : S.c < 4) (hL : SW L) (h1 : 1 ≤ L.length) (h2 : L.length ≤ 16) : SB (sNew S L) := by
  obtain ⟨a1, a2, a3, a4⟩ := h
  have old : ∀ s, s < S.c + 1 → s ≠ S.c → s < S.c := fun s _ _ => by omega
  refine ⟨by rw [sNew_c]; omega, fun s hs => ?_, fun s i w hs hi hw => ?_, fun s i hs hi => ?_⟩
  · rw [sNew_sz]
    by_cases e : s = S.c
    · rw [if_pos e]; omega
    · rw [if_neg e]; exact a2 s (old s hs e)
  · rw [sNew_sz] at hi
    by_cases e : s = S.c
    · rw [if_pos e] at hi
      obtain ⟨q, hq⟩ : ∃ q, L[i]? = some q := ⟨_, List.getElem?_eq_getElem hi⟩
      have hq2 := hL q (List.mem_of_getElem? hq)
      rw [e, sNew_new S L hq hw]
      have := hq2.2 (w - 1)
      split <;> omega
    · rw [if_neg e] at hi
      have hs' := old s hs e
      rw [sNew_old S L hs' (by have := a2 s hs'; omega) hw]
      exact a3 s i w hs' hi hw
  · rw [sNew_sz] at hi
    by_cases e : s = S.c
    · rw [if_pos e] at hi
      obtain ⟨q, hq⟩ : ∃ q, L[i]? = some q := ⟨_, List.getElem?_eq_getElem hi⟩
      have hq2 := hL q (List.mem_of_getElem? hq)
      rw [e, sNew_new S L hq (by omega), if_pos rfl]
      omega
    · rw [if_neg e] at hi
      have hs' := old s hs e
      rw [sNew_old S L hs' (by have := a2 s hs'; omega) (by omega)]
      exact a4 s i hs' hi
section KTp
variable {l : Launch} {G : GT} {d : Nat} {σ : Mm} {Q : Po} {T : Tp} {S : Sc}
theorem k_take {L : Pl} {x : Int32} (hS : SK σ S) (hc : S.c < 4) (hP : SPK σ L) (hL : SW L) (h1 : 1 ≤ L.length) (h2 : L.length ≤ 16)
    (hq : ∀ τ : Mm, (∀ c, c ≠ 12 → c ≠ 13 → c ≠ 14 → τ.1 c = σ.1 c) → τ.2 = σ.2 → SK τ (sNew S L) → Q (some (.int (jI (S.c : Int)))) τ) (ex : x = jI (L.length : Int) := by first | rfl | assumption | (simp only [jlit, jneg, jadd, jsub, jmul]; done) | (simp only [jlit, jneg, jadd, jsub, jmul]; congr 1 <;> omega) | (congr 1 <;> omega)) : MW l G (d + 1) mX6_take [.ref 12, .ref 10, .int x] σ Q := by
  refine vX6_take [] 60 ?_
  refine brle 4 (S.c : Int) (fun q => by omega) (fun _ => ?_) (hx := rfl) (hy := hS.2.1)
  refine brle (L.length : Int) 16 (fun _ => ?_) (fun q => by omega) (hx := ex) (hy := rfl)
  refine cpI (σ := σ) 0 (64 * S.c) (4 * L.length) (by decide) (by decide) (by decide) (by decide) (by show _ ≤ 112; omega) (by show _ ≤ 256; omega) (by decide) (by decide) (ey := by rw [hS.2.1]; simp only [jlit, jmul]; congr 1; omega) (ez := by rw [ex]; simp only [jlit, jmul]; congr 1; omega) (h := fun τ eτ g1 g2 g3 => ?_)
  have e12 : τ.1 12 2 = jI (S.c : Int) := by rw [g2 12 (by decide)]; exact hS.2.1
  subst eτ
  refine stI 4 S.c ?_ (hi := e12)
  have fin := hq (uI (uI (uR σ 13 (va_cpy (σ.1 10) (σ.1 13) (0 : Int32).toNatClampNeg (σ.1 12 2 * 16 * 4).toNatClampNeg (x * 4).toNatClampNeg)) 14 S.c x) 12 2 ((uI (uR σ 13 (va_cpy (σ.1 10) (σ.1 13) (0 : Int32).toNatClampNeg (σ.1 12 2 * 16 * 4).toNatClampNeg (x * 4).toNatClampNeg)) 14 S.c x).1 12 2 + 1)) (fun c k1 k2 k3 => by rw [uI_n k1, uI_n k3, g2 c k2]) g1 ⟨SB_new hS.1 hc hL h1 h2, ?_, fun s hs => ?_, fun s i w hs hi hw => ?_⟩
  · have er : jI (S.c : Int) = (uI (uI (uR σ 13 (va_cpy (σ.1 10) (σ.1 13) (0 : Int32).toNatClampNeg (σ.1 12 2 * 16 * 4).toNatClampNeg (x * 4).toNatClampNeg)) 14 S.c x) 12 2 ((uI (uR σ 13 (va_cpy (σ.1 10) (σ.1 13) (0 : Int32).toNatClampNeg (σ.1 12 2 * 16 * 4).toNatClampNeg (x * 4).toNatClampNeg)) 14 S.c x).1 12 2 + 1)).1 12 2 - 1 := by
      rw [uI_at, uI_n (by decide), e12]
      simp only [jlit, jadd, jsub]
      congr 1
      omega
    rw [er] at fin
    exact fin
  · rw [uI_at, uI_n (by decide), e12, sNew_c]
    simp only [jlit, jadd]
    congr 1
  · rw [uI_n (by decide), sNew_sz]
    rw [sNew_c] at hs
    by_cases e : s = S.c
    · rw [if_pos e, e, uI_at]
      exact ex
    · rw [if_neg e, uI_ne (Or.inr e), g2 14 (by decide)]
      exact hS.2.2.1 s (by omega)
  · rw [uI_n (by decide), uI_n (by decide), g3]
    rw [sNew_c] at hs
    rw [sNew_sz] at hi
    by_cases e : s = S.c
    · rw [if_pos e] at hi
      obtain ⟨q, hqi⟩ : ∃ q, L[i]? = some q := ⟨_, List.getElem?_eq_getElem hi⟩
      have hp := hP.2 i q hqi
      rw [e, sNew_new S L hqi hw, if_pos (by omega), show 0 + (64 * S.c + 4 * i + w - 64 * S.c) = 4 * i + w by omega]
      by_cases w0 : w = 0
      · rw [if_pos w0, w0]
        exact hp.1
      · rw [if_neg w0]
        have := hp.2 (w - 1) (by omega)
        rw [show 4 * i + 1 + (w - 1) = 4 * i + w by omega] at this
        exact this
    · rw [if_neg e] at hi
      have hs' : s < S.c := by omega
      have hsz := hS.1.2.1 s hs'
      rw [if_neg (by omega), sNew_old S L hs' (by omega) hw]
      exact hS.2.2.2 s i w hs' hi hw
theorem k_takePolicy {L : Pl} {ru r : Nat → Int} {W : Wk} {had : Nat} (hK : Kr σ 2 W) (h1 : σ.1 1 1 = jI (ru 1)) (hr : 1 ≤ ru 1 ∧ ru 1 ≤ 12) (hP : PK σ L) (hW : PW 2 had L r)
    (hq : ∀ τ : Mm, (∀ c, c ≠ 2 → τ.1 c = σ.1 c) → τ.2 = σ.2 → Kr τ 2 (wPolT ru W L) → Q (some (.int (jI (allN (wNz (wPolT ru W L)) (ru 1).toNat : Int)))) τ) : MW l G (d + 2) mX11_takePolicy [.ref 0] σ Q := by
  have hll := hW.len
  obtain ⟨N, hN⟩ : ∃ N : Nat, (N : Int) = ru 1 := ⟨(ru 1).toNat, by omega⟩
  have eN : (ru 1).toNat = N := by omega
  rw [eN] at hq
  obtain ⟨V, hV⟩ : ∃ V, V = wPolT ru W L := ⟨_, rfl⟩
  rw [← hV] at hq
  have hle : ∀ T, T ≤ 12 → allN (wNz V) T ≤ 200 := fun T hT => by have := allN_le (wNz_le V) T hT; omega
  have hlr : ∀ t n, n ≤ 13 → rowN (wNz V t) n ≤ 13 := fun t n hn => by have := rowN_le (wNz_le V t) n; omega
  -- counted
  have cnt : ∀ τ : Mm, (∀ c, c ≠ 2 → τ.1 c = σ.1 c) → τ.2 = σ.2 → Kr τ 2 V → ∀ (n m t : Nat) (a u : Int32), t + m = N → a = jI (allN (wNz V) t : Int) → u = jI (t : Int) → Wp l G (d + 2) mX11_takePolicy 82 [(0, .ref 0), (1, .int a), (2, .int u)] [] τ Q := by
    intro τ e1 e2 hKτ n m
    have r1 : τ.1 1 1 = jI (ru 1) := by rw [e1 1 (by decide)]; exact h1
    have row : ∀ (m t k : Nat) (a u w : Int32), k + m = t + 1 → t < N → a = jI ((allN (wNz V) t + rowN (wNz V t) k : Nat) : Int) → u = jI (t : Int) → w = jI (k : Int) → (∀ a', a' = jI (allN (wNz V) (t + 1) : Int) → Wp l G (d + 2) mX11_takePolicy 82 [(0, .ref 0), (1, .int a'), (2, .int (u + 1))] [] τ Q) → Wp l G (d + 2) mX11_takePolicy 94 [(0, .ref 0), (1, .int a), (2, .int u), (3, .int w)] [] τ Q := by
      intro m
      induction m with
      | zero =>
        intro t k a u w hm ht ha hu hw hgo
        refine wX11_takePolicy [(82, [0, 1, 2])] 60 ?_
        refine brlt (t : Int) (k : Int) (fun _ => ?_) (fun q => by omega) (hx := hu) (hy := hw)
        exact hgo a (by rw [ha, show k = t + 1 by omega]; rfl)
      | succ m ih =>
        intro t k a u w hm ht ha hu hw hgo
        have hd := hKτ.deed (t := t) (k := k) (by omega) (by omega)
        have hde : 0 ≤ V.de t k ∧ V.de t k ≤ 2 := by
          have := hKτ.2.2.2.2.2.2 t k (by omega) (by omega)
          rw [hKτ.2.2.2.1] at this
          exact this
        have hnx : rowN (wNz V t) (k + 1) = rowN (wNz V t) k + wNz V t k := rfl
        refine wX11_takePolicy [(94, [0, 1, 2, 3])] 60 ?_
        refine brlt (t : Int) (k : Int) (fun q => by omega) (fun _ => ?_) (hx := hu) (hy := hw)
        refine k_deedOf t k (by decide) (by omega) hd ?_ hu hw
        refine breq (V.de t k) 0 (fun q => ?_) (fun q => ?_) (hx := rfl) (hy := rfl)
        · refine ih t (k + 1) _ u _ (by omega) ht ?_ hu (by rw [hw]; simp only [jlit, jadd]; congr 1) hgo
          have e0 : wNz V t k = 0 := by unfold wNz; rw [if_pos q]
          rw [ha, hnx, e0]
          simp only [jlit, jadd]
          congr 1
        · refine ih t (k + 1) _ u _ (by omega) ht ?_ hu (by rw [hw]; simp only [jlit, jadd]; congr 1) hgo
          have e0 : wNz V t k = 1 := by unfold wNz; rw [if_neg q]
          rw [ha, hnx, e0]
          simp only [jlit, jadd]
          congr 1
    induction m with
    | zero =>
      intro t a u hm ha hu
      refine wX11_takePolicy [] 60 ?_
      refine ldI 14 1 r1 ?_ (hi := rfl)
      refine brle (ru 1) (t : Int) (fun _ => ?_) (fun q => by omega) (hx := rfl) (hy := hu)
      have := hq τ e1 e2 hKτ
      rw [show N = t by omega, ← ha] at this
      exact this
    | succ m ih =>
      intro t a u hm ha hu
      refine wX11_takePolicy [(94, [0, 1, 2, 3])] 60 ?_
      refine ldI 14 1 r1 ?_ (hi := rfl)
      refine brle (ru 1) (t : Int) (fun q => by omega) (fun _ => ?_) (hx := rfl) (hy := hu)
      exact row (t + 1) t 0 a u _ (by omega) (by omega) (by rw [ha]; rfl) hu rfl (fun a' ha' => ih (t + 1) a' _ (by omega) ha' (by rw [hu]; simp only [jlit, jadd]; congr 1))
  -- the clauses
  have parts : ∀ (m i : Nat) (u : Int32) (τ : Mm), i + m = L.length → u = jI (i : Int) → (∀ c, c ≠ 2 → τ.1 c = σ.1 c) → τ.2 = σ.2 → Kr τ 2 ((L.take i).foldl (stpD ru) (W.deeds (fun _ _ => 0))) → Wp l G (d + 2) mX11_takePolicy 14 [(0, .ref 0), (1, .int u)] [] τ Q := by
    intro m
    induction m with
    | zero =>
      intro i u τ hm hu e1 e2 hKt
      have p2 : τ.1 8 2 = jI (L.length : Int) := by rw [e1 8 (by decide)]; exact hP.1
      refine wX11_takePolicy [(82, [0, 1, 2])] 60 ?_
      refine brle (L.length : Int) (i : Int) (fun _ => ?_) (fun q => by omega) (hx := p2) (hy := hu)
      rw [List.take_of_length_le (by omega)] at hKt
      exact cnt τ e1 e2 (by rw [hV]; exact hKt) 0 N 0 _ _ (by omega) rfl rfl
    | succ m ih =>
      intro i u τ hm hu e1 e2 hKt
      have hPt : PK τ L := ⟨by rw [e1 8 (by decide)]; exact hP.1, fun i q h => by rw [e1 10 (by decide)]; exact hP.2 i q h⟩
      obtain ⟨q, hqi⟩ : ∃ q, L[i]? = some q := ⟨_, List.getElem?_eq_getElem (by omega)⟩
      have hmem := List.mem_of_getElem? hqi
      have hPq := hPt.2 i q hqi
      have hwq := hW.2.1 q hmem
      have e3 : q.1 = 3 := hwq.2.1.2 rfl
      have hb := bd3 (by have := hwq.2.2; rw [e3] at this; exact this)
      rw [e3] at hPq
      have w0 := hPq.2 0 (by decide)
      have w1 := hPq.2 1 (by decide)
      have w2 := hPq.2 2 (by decide)
      have htake : L.take (i + 1) = L.take i ++ [q] := by
        rw [List.take_add_one, hqi]
        rfl
      have r1 : τ.1 1 1 = jI (ru 1) := by rw [e1 1 (by decide)]; exact h1
      have go : ∀ ρ : Mm, (∀ c, c ≠ 2 → ρ.1 c = σ.1 c) → ρ.2 = σ.2 → Kr ρ 2 (stpD ru ((L.take i).foldl (stpD ru) (W.deeds (fun _ _ => 0))) q) → Wp l G (d + 2) mX11_takePolicy 14 [(0, .ref 0), (1, .int (u + 1))] [] ρ Q := by
        intro ρ f1 f2 hKρ
        refine ih (i + 1) _ ρ (by omega) (by rw [hu]; simp only [jlit, jadd]; congr 1) f1 f2 ?_
        rw [htake, List.foldl_append]
        exact hKρ
      refine wX11_takePolicy [(14, [0, 1])] 60 ?_
      refine brle (L.length : Int) (i : Int) (fun q => by omega) (fun _ => ?_) (hx := hPt.1) (hy := hu)
      refine k_partL hPt hll i 1 hqi (by omega) ?_ hu rfl
      refine k_partL hPt hll i 2 hqi (by omega) ?_ hu rfl
      refine k_isNode (ru 1) (q.2 0) (q.2 1) r1 (by omega) (by omega) (by omega) ?_ w0 w1
      unfold stpD at go
      refine brz _ (fun z => ?_) (fun z => ?_)
      · rw [if_neg z] at go
        exact go τ e1 e2 hKt
      · rw [if_pos z] at go
        refine k_partL hPt hll i 3 hqi (by omega) ?_ hu rfl
        refine k_setDeed (q.2 0).toNat (q.2 1).toNat (q.2 2) (by decide) hKt (by omega) (by omega) hb.2.2 (fun ρ g1 g2 g3 => ?_) (by rw [w0]; congr 1; omega) (by rw [w1]; congr 1; omega) w2
        exact go ρ (fun c hc => (g1 c hc).trans (e1 c hc)) (g2.trans e2) g3
  refine vX11_takePolicy [(14, [0, 1])] 60 ?_
  refine c_fill4 103 115 (by decide) (by decide) (by omega) (by decide) (by decide) (fun τ g1 g2 g3 => ?_) rfl rfl
  refine parts L.length 0 _ τ (by omega) rfl g2 g1 ?_
  exact Kr_de0 hK (fun j hj => by rw [g3 j, if_neg (by omega)]) (fun j q1 q2 => by rw [g3 j, if_pos (by omega)])
end KTp
