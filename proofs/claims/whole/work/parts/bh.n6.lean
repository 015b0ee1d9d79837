-- a reference stored into a row while the world is made
section BWs
variable {p : Program} {l : Launch} {e : Env} {R : Room} {s : State} {m : MethodId} {args : Array Value} {below : List Frame} {meth : Method} {c : Code} {H : Heap} {locs : List Loc} {cells slots : Nat} {Q : State → Prop} {G : GT} {S : List (Nat × Nat)} {n : Nat} {cc : ByteArray} {pc : Nat} {ls : Array Slot} {rest : List Value}
def rfS (G : GT) (S : List (Nat × Nat)) (a : Nat) : Nat → Option Nat := fun i => if (a, i) ∈ S then some (G.2.1 ((sh a).2.2.getD i 0)) else none
theorem clS_q {a : Nat} (hk : (sh a).1 = 3 ∨ (sh a).1 = 4) : clS G S a = .inl (G.2.2.1 (sh a).1, (sh a).2.1, .inr (.inr (.inr (.inr (rfS G S a))))) := by
  unfold clS
  rw [if_neg (by omega), if_neg (by omega), if_pos (by omega)]
  rfl
theorem rfS_up {a i : Nat} : rfS G ((a, i) :: S) a = va_up (rfS G S a) i (some (G.2.1 ((sh a).2.2.getD i 0))) := by
  funext j
  unfold rfS va_up
  by_cases e : j = i
  · rw [if_pos e, e, if_pos List.mem_cons_self]
  · rw [if_neg e]
    have hm : ((a, j) ∈ (a, i) :: S) = ((a, j) ∈ S) := by
      apply propext
      rw [List.mem_cons]
      constructor
      · rintro (q | q)
        · exact absurd (congrArg Prod.snd q) e
        · exact q
      · exact Or.inr
    simp only [hm]
theorem bw_aast {r : vw_C} {a ci i : Nat} {x : Int32} (hx : p.tables.exec = Jvm.exec) (hb : c.code = cc) (hK : va_K G.1 vwCl (tyL G) s) (hg : Adr G) (hn : n ≤ NN) (ha : a < n) (hP : va_P G.1 vwCl (wBd G S n) H) (hz : H.size = G.2.2.2.1 + n) (hS : va_S (aX G) s.heap H locs)
    (hk : (sh a).1 = 3) (ht : (tyL G)[3]? = some (G.2.2.1 3, .object r.1)) (hi : x = jI (i : Int)) (hi2 : i < (sh a).2.1 ∧ i < 1000) (hv : (sh a).2.2.getD i 0 < n) (hvk : (sh ((sh a).2.2.getD i 0)).1 = 10 + ci) (hc : vwCl[ci]? = some r) (hdg : decode cc pc = .ok (.aastore, 1))
    (kk : ∀ (H1 : Heap) (locs1 : List Loc), va_P G.1 vwCl (wBd G ((a, i) :: S) n) H1 → H1.size = G.2.2.2.1 + n → va_S (aX G) s.heap H1 locs1 → W p l e R s m args below meth c H1 locs1 cells slots Q (F0 m (pc + 1) ls rest)) : W p l e R s m args below meth c H locs cells slots Q (F0 m pc ls (.ref (G.2.1 ((sh a).2.2.getD i 0)) :: .int x :: .ref (G.2.1 a) :: rest)) := by
  have hD := wBd_D (S := S) hg hn
  have ha9 : (wBd G S n)[a]? = some (G.2.1 a, .inl (G.2.2.1 3, (sh a).2.1, .inr (.inr (.inr (.inr (rfS G S a)))))) := by rw [wBd_at G S ha, clS_q (Or.inl hk), hk]
  have hv9 : (wBd G S n)[(sh a).2.2.getD i 0]? = some (G.2.1 ((sh a).2.2.getD i 0), .inr (ci, (List.range (sh ((sh a).2.2.getD i 0)).2.1).map (pvS G S ((sh a).2.2.getD i 0)))) := by rw [wBd_at G S hv, clS_o hvk]
  have hxi : x.toNatClampNeg = i := by rw [hi, jix (by omega), Int.toNat_natCast]
  have h0 : ¬ x < 0 := by
    rw [hi, show (0 : Int32) = jI 0 from rfl, jlt (by omega) (by omega)]
    omega
  obtain ⟨r', hr', cellV, g1, g2, g3, -⟩ := hP _ _ hv9
  have hcls := (hK.1 ci r hc).2
  obtain ⟨kA, comp, k1, k2, k3, -⟩ := (hK.2 3 _ ht).2
  have hcomp : comp = G.1.1 ci := Option.some.inj (k3.symm.trans hcls.1)
  subst hcomp
  obtain ⟨kC, hkC, -⟩ := hcls.2
  refine W.aast hx hb (hP a _ ha9) (fun q h => by cases h) (fun h => by cases h) k1 k2 rfl hkC ⟨h0, by show _ < (arrV _ _ _).slots.size; rw [arrV_size, hxi]; exact hi2.1⟩ g1 (fun q h => by rw [g3] at h; cases h) (by rw [g2]; exact hkC) (by rw [g2]; exact va_assign hcls) rfl rfl hdg fun H1 e1 z oq => ?_
  refine kk H1 _ ?_ (z.trans hz) (hS.put z oq (hD.2 a _ ha9))
  rw [← wBd_set (x := .inl (G.2.2.1 3, (sh a).2.1, .inr (.inr (.inr (.inr (va_up (rfS G S a) i (some (G.2.1 ((sh a).2.2.getD i 0))))))))) (by rw [clS_q (Or.inl hk), rfS_up, hk])]
  refine hP.set hD ha9 ?_ oq
  show H1[G.2.1 a]? = some (vp_cell _ _)
  rw [e1]
  rw [vp_cell_q, vp_cell_q, arrV_store]
  congr 2
  funext q
  rw [hxi]
  by_cases hq : q = i
  · subst hq
    simp [updV, va_up, va_rf]
  · simp [updV, va_up, hq]
end BWs
