-- clauses, read purely; where a part begins: the class
theorem frm_at (s : Nat) (hs : s < 4) : (stc 202).getD s 0 = jI (frm s : Int) ∧ (stc 202).getD (s + 1) 0 = jI ((frm s + szB s : Nat) : Int) ∧ frm s + szB s ≤ 22 := by
  have : s = 0 ∨ s = 1 ∨ s = 2 ∨ s = 3 := by omega
  rcases this with rfl | rfl | rfl | rfl <;> exact ⟨by decide, by decide, by decide⟩
theorem szB_in (s : Nat) : 2 ≤ szB s ∧ szB s ≤ 14 ∧ (1 ≤ s → szB s ≤ 3) := by unfold szB; split <;> (try split) <;> omega
/-- the plain numbers of a sort of clause -/
def plB (s w : Nat) : Int := ((stc 206).getD (frm s + w) 0).toInt
theorem plB_at (s w : Nat) : (stc 206).getD (frm s + w) 0 = jI (plB s w) := (jI_of _).symm
theorem sk_no {T : Tp} : ∀ m j, m = T.n - j → ch T (sk T j) ≠ 32 := by
  intro m
  induction m with
  | zero =>
    intro j hm
    have hn : ch T j ≠ 32 := by
      unfold ch
      rw [if_neg (by omega)]
      omega
    rw [sk_n hn]
    exact hn
  | succ m ih =>
    intro j hm
    by_cases q : ch T j = 32
    · rw [sk_y q]
      exact ih (j + 1) (by omega)
    · rw [sk_n q]
      exact q
theorem sk_sk (T : Tp) (j : Nat) : sk T (sk T j) = sk T j := sk_n (sk_no _ j rfl)
theorem plc_sh (L L' : List Int32) (x : Int32) (a : Nat) : ∀ m i, (∀ k, k < i + m → L.getD (a + k) 0 = L'.getD k 0) → plc L x m (a + i) = if plc L' x m i = -1 then -1 else (a : Int) + plc L' x m i
  | 0, i, h => by simp [plc]
  | m + 1, i, h => by
    have e := h i (by omega)
    have ih := plc_sh L L' x a m (i + 1) (fun k hk => h k (by omega))
    unfold plc
    rw [e]
    by_cases q : L'.getD i 0 = x
    · rw [if_pos q, if_pos q, if_neg (by omega)]
      omega
    · rw [if_neg q, if_neg q]
      exact ih
theorem plc_it (s : Nat) (hs : s < 4) (x : Int) : plc (stc 203) (jI x) (szB s) (frm s) = if itW s x = -1 then -1 else (frm s : Int) + itW s x := by
  have h := plc_sh (stc 203) (stc (220 + s)) (jI x) (frm s) (szB s) 0 (fun k hk => by
    have : s = 0 ∨ s = 1 ∨ s = 2 ∨ s = 3 := by omega
    have d0 : ∀ k : Fin 14, (stc 203).getD (0 + k.val) 0 = (stc 220).getD k.val 0 := by decide
    have d1 : ∀ k : Fin 2, (stc 203).getD (14 + k.val) 0 = (stc 221).getD k.val 0 := by decide
    have d2 : ∀ k : Fin 3, (stc 203).getD (16 + k.val) 0 = (stc 222).getD k.val 0 := by decide
    have d3 : ∀ k : Fin 3, (stc 203).getD (19 + k.val) 0 = (stc 223).getD k.val 0 := by decide
    have hk : k < szB s := by omega
    rcases this with rfl | rfl | rfl | rfl
    · exact d0 ⟨k, hk⟩
    · exact d1 ⟨k, hk⟩
    · exact d2 ⟨k, hk⟩
    · exact d3 ⟨k, hk⟩)
  rw [Nat.add_zero] at h
  unfold itW
  rw [len_sz s hs]
  exact h
section KSp
variable {l : Launch} {G : GT} {d : Nat} {σ : Mm} {Q : Po}
theorem k_startPart {x : Int32} (hG : GX G) (s n : Nat) (hs : 1 ≤ s ∧ s < 4) (hn : n < 28) (h2 : σ.1 8 2 = jI (n : Int))
    (hq : ∀ τ : Mm, (∀ c, c ≠ 8 → c ≠ 10 → τ.1 c = σ.1 c) → τ.2 = σ.2 → (∀ k, k ≠ 2 → τ.1 8 k = σ.1 8 k) → τ.1 8 2 = jI ((n + 1 : Nat) : Int) → τ.1 10 (4 * n) = jI (s : Int) → (∀ j, j < szB s → τ.1 10 (4 * n + 1 + j) = jI (plB s j)) → (∀ j, j < 4 * n → τ.1 10 j = σ.1 10 j) → Q (some (.int (jI ((4 * n : Nat) : Int)))) τ)
    (ex : x = jI (s : Int) := by first | rfl | assumption | (simp only [jlit, jneg, jadd, jsub, jmul]; done) | (simp only [jlit, jneg, jadd, jsub, jmul]; congr 1 <;> omega) | (congr 1 <;> omega)) : MW l G (d + 2) mX4_startPart [.ref 8, .int x] σ Q := by
  have hf := frm_at s hs.2
  have hz := szB_in s
  have key : ∀ (m i : Nat) (u v : Int32) (τ : Mm), i + m = szB s → u = jI ((frm s + i : Nat) : Int) → v = jI ((4 * n : Nat) : Int) → (∀ c, c ≠ 8 → c ≠ 10 → τ.1 c = σ.1 c) → τ.2 = σ.2 → (∀ k, k ≠ 2 → τ.1 8 k = σ.1 8 k) → τ.1 8 2 = jI ((n + 1 : Nat) : Int) → τ.1 10 (4 * n) = jI (s : Int) → (∀ j, j < i → τ.1 10 (4 * n + 1 + j) = jI (plB s j)) → (∀ j, j < 4 * n → τ.1 10 j = σ.1 10 j) → Wp l G (d + 2) mX4_startPart 57 [(0, .ref 8), (1, .int x), (2, .int v), (3, .int u)] [] τ Q := by
    intro m
    induction m with
    | zero =>
      intro i u v τ hm hu hv e1 e2 e3 e4 e5 e6 e7
      refine wX4_startPart [] 80 ?_
      refine And.intro hG ?_
      refine And.intro hG ?_
      refine ldI (f := fun k => (stc 202).getD k 0) 5 (s + 1) hf.2.1 ?_ (hi := by rw [ex]; simp only [jlit, jadd]; congr 1)
      refine brle ((frm s + szB s : Nat) : Int) ((frm s + i : Nat) : Int) (fun _ => ?_) (fun q => by omega) (hx := rfl) (hy := hu)
      have := hq τ e1 e2 e3 e4 e5 (fun j hj => e6 j (by omega)) e7
      rw [← hv] at this
      exact this
    | succ m ih =>
      intro i u v τ hm hu hv e1 e2 e3 e4 e5 e6 e7
      refine wX4_startPart [(57, [0, 1, 2, 3])] 80 ?_
      refine And.intro hG ?_
      refine And.intro hG ?_
      refine ldI (f := fun k => (stc 202).getD k 0) 5 (s + 1) hf.2.1 ?_ (hi := by rw [ex]; simp only [jlit, jadd]; congr 1)
      refine brle ((frm s + szB s : Nat) : Int) ((frm s + i : Nat) : Int) (fun q => by omega) (fun _ => ?_) (hx := rfl) (hy := hu)
      refine And.intro hG ?_
      refine And.intro hG ?_
      refine ldI (f := fun k => (stc 202).getD k 0) 5 s hf.1 ?_ (hi := ex)
      refine And.intro hG ?_
      refine And.intro hG ?_
      refine ldI (f := fun k => (stc 206).getD k 0) 22 (frm s + i) (plB_at s i) ?_ (hi := hu)
      refine stI 112 (4 * n + 1 + i) ?_ (hi := by rw [hv, hu]; simp only [jlit, jadd, jsub]; congr 1; omega)
      refine ih (i + 1) _ v _ (by omega) (by rw [hu]; simp only [jlit, jadd]; congr 1) hv (fun c k1 k2 => by rw [uI_n k2]; exact e1 c k1 k2) e2 (fun k hk => by rw [uI_n (by decide)]; exact e3 k hk) (by rw [uI_n (by decide)]; exact e4) (by rw [uI_ne (Or.inr (by omega))]; exact e5) (fun j hj => ?_) (fun j hj => by rw [uI_ne (Or.inr (by omega))]; exact e7 j hj)
      by_cases q : j = i
      · rw [q, uI_at]
      · rw [uI_ne (Or.inr (by omega))]
        exact e6 j (by omega)
  refine vX4_startPart [(57, [0, 1, 2, 3])] 80 ?_
  refine breq (s : Int) 0 (fun q => by omega) (fun _ => ?_) (hx := ex) (hy := rfl)
  refine brlt (n : Int) 28 (fun _ => ?_) (fun q => by omega) (hx := h2) (hy := rfl)
  refine c_fill4 (4 * n) (4 * n + 4) (by decide) (by decide) (by omega) (by show _ ≤ 112; omega) (by decide) (fun τ g1 g2 g3 => ?_) (by rw [h2]; simp only [jlit, jmul]; congr 1; omega) (by rw [h2]; simp only [jlit, jmul, jadd]; congr 1; omega)
  refine stI 112 (4 * n) ?_ (hi := by rw [h2]; simp only [jlit, jmul]; congr 1; omega)
  refine And.intro hG ?_
  refine And.intro hG ?_
  refine ldI (f := fun k => (stc 202).getD k 0) 5 s hf.1 ?_ (hi := ex)
  refine key (szB s) 0 _ _ _ (by omega) rfl (by rw [h2]; simp only [jlit, jmul]; congr 1; omega) (fun c k1 k2 => by rw [uI_n k2, g2 c k2, uI_n k1]) g1 (fun k hk => by rw [uI_n (by decide), g2 8 (by decide), uI_ne (Or.inr hk)]) (by rw [uI_n (by decide), g2 8 (by decide), uI_at, h2]; simp only [jlit, jadd]; congr 1) (by rw [uI_at]; exact ex) (fun j hj => by omega) (fun j hj => ?_)
  rw [uI_ne (Or.inr (by omega)), g3 j, if_neg (by omega), uI_n (by decide)]
end KSp
