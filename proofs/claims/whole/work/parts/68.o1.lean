-- the class's row
def pi9 (k : Nat) : Nat := if k < 6 then k else if k = 11 then 6 else k + 1
def Kr (σ : Mm) (a : Nat) (W : Wk) : Prop := (∀ k, k < 12 → σ.1 a k = jI (W.f (pi9 k))) ∧ amS σ a = W.am ∧ raS σ a 0 = W.ra ∧ deS σ a = W.de ∧ CB σ a
theorem pi9_inj {j k : Nat} (hj : j < 12) (hk : k < 12) (h : pi9 j = pi9 k) : j = k := by
  unfold pi9 at h
  repeat' split at h
  all_goals omega
theorem Kr.fr {σ τ : Mm} {a : Nat} {W : Wk} (h : Kr σ a W) (e : τ.1 a = σ.1 a) : Kr τ a W := by
  obtain ⟨h1, h2, h3, h4, h5⟩ := h
  refine ⟨fun k hk => by rw [e]; exact h1 k hk, (amS_eq (fun j _ _ => by rw [e])).trans h2, (raS_eq (fun j _ _ => by rw [e])).trans h3, (deS_eq (fun j _ _ => by rw [e])).trans h4, ?_⟩
  have ed : deS τ a = deS σ a := deS_eq (fun j _ _ => by rw [e])
  refine ⟨fun j => ?_, fun j => ?_, fun t k => ?_⟩
  · rw [e]; exact h5.1 j
  · rw [e]; exact h5.2.1 j
  · rw [ed]; exact h5.2.2 t k
theorem Kr.put {σ : Mm} {a : Nat} {W : Wk} (h : Kr σ a W) (k : Nat) (z : Int) {v : Int32} (hk : k < 12 := by omega) (hv : v = jI z := by first | rfl | assumption | (simp only [jlit, jneg, jadd, jsub, jmul]; done) | (simp only [jlit, jneg, jadd, jsub, jmul]; congr 1 <;> omega) | (congr 1 <;> omega)) : Kr (uI σ a k v) a (W.put (pi9 k) z) := by
  subst hv
  obtain ⟨h1, h2, h3, h4, h5⟩ := h
  have e : ∀ j, 12 ≤ j → (uI σ a k (jI z)).1 a j = σ.1 a j := fun j hj => uI_ne (Or.inr (by omega))
  have ed : deS (uI σ a k (jI z)) a = deS σ a := deS_eq (fun j _ _ => e j (by omega))
  refine ⟨fun j hj => ?_, (amS_eq (fun j _ _ => e j (by omega))).trans h2, (raS_eq (fun j _ _ => by rw [e j (by omega)])).trans h3, ed.trans h4, fun j q1 q2 => ?_, fun j q1 q2 => ?_, fun t j => ?_⟩
  · show _ = jI (if pi9 j = pi9 k then z else W.f (pi9 j))
    by_cases q : j = k
    · rw [q, uI_at, if_pos rfl]
    · rw [uI_ne (Or.inr q), if_neg (fun w => q (pi9_inj hj hk w))]
      exact h1 j hj
  · rw [e j (by omega)]; exact h5.1 j q1 q2
  · rw [e j (by omega)]; exact h5.2.1 j q1 q2
  · rw [ed]; exact h5.2.2 t j
theorem Kr.ex {σ : Mm} {a : Nat} {W V : Wk} (h : Kr σ a W) (e : ∀ k, k < 12 → W.f k = V.f k) (e2 : W.2 = V.2) : Kr σ a V := by
  obtain ⟨h1, h2, h3, h4, h5⟩ := h
  refine ⟨fun k hk => ?_, h2.trans (congrArg Prod.fst e2), h3.trans (congrArg (fun x => x.2.1) e2), h4.trans (congrArg (fun x => x.2.2) e2), h5⟩
  rw [← e (pi9 k) (by unfold pi9; split <;> (try split) <;> omega)]
  exact h1 k hk
theorem c12 {k : Nat} (h : k < 12) : k = 0 ∨ k = 1 ∨ k = 2 ∨ k = 3 ∨ k = 4 ∨ k = 5 ∨ k = 6 ∨ k = 7 ∨ k = 8 ∨ k = 9 ∨ k = 10 ∨ k = 11 := by omega
section KO
variable {l : Launch} {G : GT} {d : Nat} {σ : Mm} {Q : Po} {ru : Nat → Int} {W : Wk}
theorem k_here (t h : Nat) (hK : Kr σ 2 W) (h0 : W.f 0 = t) (h1 : W.f 1 = h) (ht : t ≤ 100) (hq : Q (some (.int (jI (nd t h)))) σ) : MW l G (d + 1) mX3_here [.ref 63] σ Q := by
  refine vX3_here [] 30 ?_
  refine ldI 115 0 (hK.1 0 (by omega)) ?_
  refine ldI 115 1 (hK.1 1 (by omega)) ?_
  exact k_nodeOf t h hq (by show jI (W.f 0) = _; rw [h0]) (by show jI (W.f 1) = _; rw [h1])
theorem k_takeNoticeBack (hK : Kr σ 2 W) (b4 : 0 ≤ W.f 4 ∧ W.f 4 ≤ 2) (hq1 : W.f 4 = 0 → Q (some (.int (jI (-3)))) σ) (hq : W.f 4 ≠ 0 → ∀ τ : Mm, (∀ c, c ≠ 2 → τ.1 c = σ.1 c) → τ.2 = σ.2 → Kr τ 2 ((W.put 4 0).put 5 0) → Q (some (.int (jI (W.f 5)))) τ) : MW l G d mX3_takeNoticeBack [.ref 63] σ Q := by
  refine vX3_takeNoticeBack [] 40 ?_
  refine ldI 115 4 (hK.1 4 (by omega)) ?_
  refine breq (W.f 4) 0 (fun z => hq1 z) (fun z => ?_)
  refine ldI 115 5 (hK.1 5 (by omega)) ?_
  refine stI 115 4 ?_
  refine stI 115 5 ?_
  exact hq z _ (fun c hc => by rw [uI_n hc, uI_n hc]) rfl ((hK.put 4 0).put 5 0)
end KO
