section ML6
variable {l : Launch} {G : GT} {d : Nat} {σ : Mm} {Q : Po} {ru am : Nat → Int} {ra : Nat → Nat → Int} {w T : Nat}
def DW (σ : Mm) (w : Nat) (ru : Nat → Int) (de : Nat → Nat → Int) : Prop := ∀ t h : Nat, (t : Int) < ru 1 → h ≤ t → σ.1 w (169 + (12 * t + h)) = jI (de t h) ∧ 0 ≤ de t h ∧ de t h ≤ 2
theorem c_policyDeed {x y z : Int32} (de : Nat → Nat → Int) (r t h : Nat) (hP : PM σ w ru ra) (hD : DW σ w ru de) (hr2 : r ≤ 2) (ht : (t : Int) < ru 1) (hh : h ≤ t) (hq : Q (some (.int (jI (zpd ru de r t h)))) σ) (ex : x = jI r := by first | rfl | assumption | (simp only [jlit, jneg, jadd, jsub, jmul]; done) | (simp only [jlit, jneg, jadd, jsub, jmul]; congr 1 <;> omega) | (congr 1 <;> omega)) (ey : y = jI t := by first | rfl | assumption | (simp only [jlit, jneg, jadd, jsub, jmul]; done) | (simp only [jlit, jneg, jadd, jsub, jmul]; congr 1 <;> omega) | (congr 1 <;> omega)) (ez : z = jI h := by first | rfl | assumption | (simp only [jlit, jneg, jadd, jsub, jmul]; done) | (simp only [jlit, jneg, jadd, jsub, jmul]; congr 1 <;> omega) | (congr 1 <;> omega)) : MW l G (d + 2) mX12_policyDeed [.ref 98, .ref w, .int x, .int y, .int z] σ Q := by
  obtain ⟨d1, d2, d3⟩ := hD t h ht hh
  have hr := hP.1
  have hw := hP.2.1
  have h12 : ru 1 ≤ 12 := by unfold RB at hr; omega
  refine vX12_policyDeed [] 60 ?_
  refine c_node t h ?_ ey ez
  refine ldI (lenI w) (169 + (12 * t + h)) d1 ?_
  refine c_may (de t h) r t hr hP.2.2.1 (by omega) (by omega) (by omega) ?_ rfl ex ey
  unfold zpd at hq
  refine brz inferInstance (fun h1 => ?_) (fun h1 => ?_)
  · rw [if_neg h1] at hq
    exact hq
  · rw [if_pos h1] at hq
    exact hq
theorem c_laysBy {f x y c z : Int32} (pol : Option (Nat → Nat → Int)) (N : Nat → Nat → Int) (r b fr : Nat) (cp : Int) (hP : PM σ w ru ra) (hL : LY σ ru am) (hT : lenJ T = 62640) (hr2 : r ≤ 2) (hb : b ≤ 144) (hc : 0 ≤ cp ∧ cp ≤ 999) (hN : TN σ T ru r N) (hN2 : 0 < r → ∀ t h : Nat, (t : Int) < ru 1 → h ≤ t → N t h ≤ 1000000) (hD : ∀ de, pol = some de → DW σ w ru de) (ef : f = if pol.isSome = true then 1 else 0)
    (hq : ∀ τ : Mm, τ.1 = σ.1 → (∀ a, a ≠ T → τ.2 a = σ.2 a) → (∀ i, (∀ t h : Nat, fr ≤ t → (t : Int) < ru 1 → h ≤ t → i ≠ ix4 r b t h) → τ.2 T i = σ.2 T i) → (∀ t h : Nat, fr ≤ t → (t : Int) < ru 1 → h ≤ t → τ.2 T (ix4 r b t h) = jL (zC ru am ra pol r cp N t h)) → Q none τ)
    (ex : x = jI r := by first | rfl | assumption | (simp only [jlit, jneg, jadd, jsub, jmul]; done) | (simp only [jlit, jneg, jadd, jsub, jmul]; congr 1 <;> omega) | (congr 1 <;> omega)) (ey : y = jI b := by first | rfl | assumption | (simp only [jlit, jneg, jadd, jsub, jmul]; done) | (simp only [jlit, jneg, jadd, jsub, jmul]; congr 1 <;> omega) | (congr 1 <;> omega)) (ec : c = jI cp := by first | rfl | assumption | (simp only [jlit, jneg, jadd, jsub, jmul]; done) | (simp only [jlit, jneg, jadd, jsub, jmul]; congr 1 <;> omega) | (congr 1 <;> omega)) (ez : z = jI fr := by first | rfl | assumption | (simp only [jlit, jneg, jadd, jsub, jmul]; done) | (simp only [jlit, jneg, jadd, jsub, jmul]; congr 1 <;> omega) | (congr 1 <;> omega)) (hfr : fr ≤ 12 := by omega) : MW l G (d + 8) mX12_laysBy [.ref 98, .ref w, .ref T, .int f, .int x, .int y, .int c, .int z] σ Q := by
  have hr := hP.1
  have hr' := hr
  unfold RB at hr'
  have hra : ∀ t h : Nat, (t : Int) < ru 1 → h ≤ t → 0 ≤ ra t h := fun t h q1 q2 => (hP.ra q1 q2).1
  have hpol : ∀ de, pol = some de → ∀ t h : Nat, (t : Int) < ru 1 → h ≤ t → 0 ≤ de t h ∧ de t h ≤ 2 := fun de e t h q1 q2 => (hD de e t h q1 q2).2
  have hC : ∀ t h : Nat, (t : Int) ≤ ru 1 → h ≤ t → B30 (zC ru am ra pol r cp N t h) := by
    intro t h q1 q2
    have := zC_in (pol := pol) (r := r) (cp := cp) (N := N) (n := 1000000) hr hL.1 hra hpol hc (fun q t h q1 q2 => ⟨(hN (by omega) t h q1 q2).2.1, hN2 (by omega) t h q1 q2⟩) (by omega) ((ru 1).toNat - t) t h (by omega) q2
    omega
  let C := zC ru am ra pol r cp N
  -- the invariant: the memory, what is laid already
  let I : Mm → Nat → Nat → Prop := fun τ n k => τ.1 = σ.1 ∧ (∀ a, a ≠ T → τ.2 a = σ.2 a) ∧ (∀ i, (∀ t h : Nat, fr ≤ t → (t : Int) < ru 1 → h ≤ t → i ≠ ix4 r b t h) → τ.2 T i = σ.2 T i) ∧ (∀ t h : Nat, fr ≤ t → (t : Int) < ru 1 → h ≤ t → (n ≤ t ∨ t + 1 = n ∧ h < k) → τ.2 T (ix4 r b t h) = jL (zC ru am ra pol r cp N t h))
  -- one node
  have node : ∀ (n k : Nat) (τ : Mm), fr ≤ n → (n : Int) < ru 1 → k ≤ n → I τ (n + 1) k → (∀ τ' v, I τ' (n + 1) (k + 1) → v = jI ((k + 1 : Nat) : Int) → Wp l G (d + 8) mX12_laysBy 20 [(0, .ref 98), (1, .ref w), (2, .ref T), (3, .int f), (4, .int x), (5, .int y), (6, .int c), (7, .int z), (8, .int (jI n)), (9, .int v)] [] τ' Q) → Wp l G (d + 8) mX12_laysBy 20 [(0, .ref 98), (1, .ref w), (2, .ref T), (3, .int f), (4, .int x), (5, .int y), (6, .int c), (7, .int z), (8, .int (jI n)), (9, .int (jI k))] [] τ Q := by
    intro n k τ hn1 hn2 hk hI hgo
    obtain ⟨i1, i2, i3, i4⟩ := hI
    have hP' : PM τ w ru ra := hP.fr (by rw [i1]) (by rw [i1]) (by rw [i1])
    have hL' : LY τ ru am := hL.fr (by rw [i1]) (by rw [i1]) (by rw [i1])
    have hB : TB τ T ru r b (n + 1) (zC ru am ra pol r cp N) := fun t h q1 q2 q3 => ⟨fun q4 => i4 t h (by omega) q4 q3 (Or.inl q1), fun q4 => zC_end q4, hC t h q2 q3⟩
    have hN' : TN τ T ru r N := by
      intro q0 t h q1 q2
      have := hN q0 t h q1 q2
      rw [i3 _ (fun t' h' q3 q4 q5 e => by have := ix4_inj (by omega) (by omega) (by omega) (by omega) (by omega) (by omega) e; omega)]
      exact this
    have hm := zdd_in (ru := ru) (am := am) (ra := ra) (pol := pol) (cp := cp) (B := zC ru am ra pol r cp N) (N := N) (r := r) (t := n) (h := k) (fun de q => hpol de q n k hn2 hk)
    obtain ⟨dn, hdn⟩ : ∃ dn : Nat, zdd ru am ra pol cp (zC ru am ra pol r cp N) N r n k = dn := ⟨(zdd ru am ra pol cp (zC ru am ra pol r cp N) N r n k).toNat, by omega⟩
    have b61 : Wp l G (d + 8) mX12_laysBy 61 [(0, .ref 98), (1, .ref w), (2, .ref T), (3, .int f), (4, .int x), (5, .int y), (6, .int c), (7, .int z), (8, .int (jI n)), (9, .int (jI k))] [.int (jI (zdd ru am ra pol cp (zC ru am ra pol r cp N) N r n k))] τ Q := by
      rw [hdn] at hm ⊢
      refine wX12_laysBy [(20, [0, 1, 2, 3, 4, 5, 6, 7, 8, 9])] 60 ?_
      refine c_cell r b n k ?_ ex ey
      refine c_costBy dn r b n k cp (zC ru am ra pol r cp N) N hP' hL' hT hr2 hb hn2 hk hc hB hN' (by omega) ?_ rfl ex ey ec
      refine stI (lenJ T) (ix4 r b n k) ?_ (by unfold ix4; omega) (by unfold ix4; congr 1 <;> push_cast <;> omega)
      refine hgo _ _ ⟨i1, fun a ha => by rw [uJ_n ha]; exact i2 a ha, fun i hi => ?_, fun t h q1 q2 q3 q4 => ?_⟩ (by first | rfl | assumption | (simp only [jlit, jneg, jadd, jsub, jmul]; done) | (simp only [jlit, jneg, jadd, jsub, jmul]; congr 1 <;> omega) | (congr 1 <;> omega))
      · rw [uJ_s, updL_n (hi n k hn1 hn2 hk)]
        exact i3 i hi
      · rw [uJ_s]
        by_cases e : t = n ∧ h = k
        · obtain ⟨rfl, rfl⟩ := e
          rw [updL_s, ← hdn, ← zC_step q2]
        · rw [updL_n (fun q => e (by have := ix4_inj (by omega) (by omega) (by omega) (by omega) (by omega) (by omega) q; omega))]
          exact i4 t h q1 q2 q3 (by omega)
    refine wX12_laysBy [(61, [0, 1, 2, 3, 4, 5, 6, 7, 8, 9])] 60 ?_
    refine brlt n k (fun q => by omega) (fun _ => ?_)
    cases pol with
    | none =>
      refine And.intro (fun _ => ?_) (fun q => absurd ef q)
      exact c_bestDeed r b n k cp (zC ru am ra none r cp N) N hP' hL' hT hr2 hb hn2 hk hc hB hN' b61 ex ey ec
    | some de =>
      have ef1 : f = 1 := ef
      refine And.intro (fun q => absurd (ef1.symm.trans q) (by decide)) (fun _ => ?_)
      exact c_policyDeed de r n k hP' (fun t h q1 q2 => by rw [i1]; exact hD de rfl t h q1 q2) hr2 hn2 hk b61 ex
  -- a year's nodes
  have row : ∀ (m n k : Nat) (τ : Mm) (u : Int32), u = jI k → k + m = n + 1 → fr ≤ n → (n : Int) < ru 1 → I τ (n + 1) k → (∀ τ' v, I τ' n 0 → v = jI ((n : Int) - 1) → Wp l G (d + 8) mX12_laysBy 10 [(0, .ref 98), (1, .ref w), (2, .ref T), (3, .int f), (4, .int x), (5, .int y), (6, .int c), (7, .int z), (8, .int v)] [] τ' Q) → Wp l G (d + 8) mX12_laysBy 20 [(0, .ref 98), (1, .ref w), (2, .ref T), (3, .int f), (4, .int x), (5, .int y), (6, .int c), (7, .int z), (8, .int (jI n)), (9, .int u)] [] τ Q := by
    intro m
    induction m with
    | zero =>
      intro n k τ u hu hk h1 h2 hI hgo
      refine wX12_laysBy [(10, [0, 1, 2, 3, 4, 5, 6, 7, 8])] 60 ?_
      refine brlt n k (fun _ => ?_) (fun q => by omega) rfl hu
      exact hgo τ _ ⟨hI.1, hI.2.1, hI.2.2.1, fun t h q1 q2 q3 q4 => hI.2.2.2 t h q1 q2 q3 (by omega)⟩ (by rw [show (-1 : Int32) = jI (-1) from rfl, jadd]; rfl)
    | succ m ih =>
      intro n k τ u hu hk h1 h2 hI hgo
      subst hu
      exact node n k τ h1 h2 (by omega) hI (fun τ' v hI' hv => ih n (k + 1) τ' v hv (by omega) h1 h2 hI' hgo)
  have outer : ∀ (n : Nat) (τ : Mm) (u : Int32), u = jI ((n : Int) - 1) → (n : Int) ≤ ru 1 → I τ n 0 → Wp l G (d + 8) mX12_laysBy 10 [(0, .ref 98), (1, .ref w), (2, .ref T), (3, .int f), (4, .int x), (5, .int y), (6, .int c), (7, .int z), (8, .int u)] [] τ Q := by
    intro n
    induction n with
    | zero =>
      intro τ u hu h1 hI
      refine wX12_laysBy [] 60 ?_
      refine brlt (((0 : Nat) : Int) - 1) fr (fun _ => ?_) (fun q => by omega) hu ez
      exact hq τ hI.1 hI.2.1 hI.2.2.1 (fun t h q1 q2 q3 => hI.2.2.2 t h q1 q2 q3 (Or.inl (Nat.zero_le _)))
    | succ n ih =>
      intro τ u hu h1 hI
      push_cast at h1
      have hu : u = jI n := by rw [hu]; congr 1; omega
      subst hu
      by_cases hf : fr ≤ n
      · refine wX12_laysBy [(20, [0, 1, 2, 3, 4, 5, 6, 7, 8, 9])] 60 ?_
        refine brlt n fr (fun q => by omega) (fun _ => ?_) rfl ez
        exact row (n + 1) n 0 τ _ rfl (by omega) hf (by omega) hI (fun τ' v hI' hv => ih τ' v hv (by omega) hI')
      · refine wX12_laysBy [] 60 ?_
        refine brlt n fr (fun _ => ?_) (fun q => by omega) rfl ez
        exact hq τ hI.1 hI.2.1 hI.2.2.1 (fun t h q1 q2 q3 => hI.2.2.2 t h q1 q2 q3 (Or.inl (by omega)))
  refine vX12_laysBy [(10, [0, 1, 2, 3, 4, 5, 6, 7, 8])] 60 ?_
  refine ldI 14 1 (hP.2.2.1 1 (by omega)) ?_
  exact outer (ru 1).toNat σ _ (by rw [jlit, jsub]; congr 1; omega) (by omega) ⟨rfl, fun _ _ => rfl, fun _ _ => rfl, fun t h q1 q2 q3 q4 => by omega⟩
end ML6
