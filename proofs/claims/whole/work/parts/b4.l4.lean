-- the class's rate at a node; calls out of any room
section KRt
variable {l : Launch} {G : GT} {d : Nat} {σ : Mm} {Q : Po} {ru : Nat → Int} {W : Wk}
theorem k_rate {x y : Int32} (a b : Int) (hK : KQ σ ru W) (hn : isN ru a b) (ra : R31 a) (rb : R31 b) (hq : Q (some (.int (jI (aRate ru W a b)))) σ) (ex : x = jI a := by first | rfl | assumption | (simp only [jlit, jneg, jadd, jsub, jmul]; done) | (simp only [jlit, jneg, jadd, jsub, jmul]; congr 1 <;> omega) | (congr 1 <;> omega)) (ey : y = jI b := by first | rfl | assumption | (simp only [jlit, jneg, jadd, jsub, jmul]; done) | (simp only [jlit, jneg, jadd, jsub, jmul]; congr 1 <;> omega) | (congr 1 <;> omega)) : MW l G (d + 1) mX11_rate [.ref 0, .int x, .int y] σ Q := by
  have h12 := hK.ru
  have hn' := hn
  unfold isN at hn'
  unfold aRate at hq
  rw [if_pos hn] at hq
  have h78 := nd_lt2 (show a.toNat < 12 by omega) (show b.toNat ≤ a.toNat by omega)
  have e : σ.1 2 (25 + nd a.toNat b.toNat) = jI (W.ra a.toNat b.toNat) := by
    have hc := hK.1.2.2.2.2.2.1 (25 + nd a.toNat b.toNat) (by omega) (by omega)
    have h := congrFun (congrFun hK.1.2.2.1 a.toNat) b.toNat
    unfold raS at h
    rw [if_pos (by omega), Int.add_zero, bnd_id hc.1 hc.2] at h
    rw [← h]
    exact (jI_of _).symm
  refine vX11_rate [] 60 ?_
  refine k_isN a b hK ra rb ?_ ex ey
  rw [if_pos hn]
  refine And.intro (fun q => absurd q (by decide)) (fun _ => ?_)
  refine k_nodeOf a.toNat b.toNat ?_ (by rw [ex]; congr 1; omega) (by rw [ey]; congr 1; omega) (by omega)
  exact ldI 115 (25 + nd a.toNat b.toNat) e hq (hi := by show (25 : Int32) + jI _ = _; rw [show (25 : Int32) = jI 25 from rfl, jadd]; congr 1)
end KRt
section WCa
variable {p : Program} {l : Launch} {e : Env} {R : Room} {s : State} {m : MethodId} {args : Array Value} {below : List Frame} {meth : Method} {c : Code} {H : Heap} {locs : List Loc} {cells slots : Nat} {Q : State → Prop} {G : GT} {σ : Mm} {pc : Nat} {ls : Array Slot} {st : List Value}
theorem w_callV {own : String} {cb : ByteArray} (hx : p.tables.exec = Jvm.exec) (hbc : c.code = cb) (hml : ls.size = c.maxLocals) (hown : s.vm.findClass own = some m.cls) (hts : ∀ w ∈ gW, w.before args s = true) (hKx : Kx G s) {M' : Me} {n idx ci a d : Nat} {av rest : List Value} (hd : decode cb pc = .ok (.invokevirtual idx, 3)) (hk : Cond.methodLink own idx M'.1 ∈ gW) (hm : MeV M' n ci) (hst : st = av.reverse ++ .ref a :: rest) (hn : av.length = n ∧ (sh a).1 = 10 + ci ∧ catS rest ≤ 24) (hR : d + 1 ≤ R.frames ∧ 95 + 96 * d ≤ R.locals ∧ cells ≤ R.cells ∧ slots ≤ R.slots) (hP : va_P G.1 vwCl (wo G σ) H) (hS : va_S (aX G) s.heap H locs) {Q' : Po} (h : MW l G d M' (.ref a :: av) σ Q')
    (k : ∀ r σ' H' locs', Q' r σ' → va_P G.1 vwCl (wo G σ') H' → va_S (aX G) s.heap H' locs' → W p l e R s m args below meth c H' locs' cells slots Q (F0 m (pc + 3) ls ((r.toList ++ rest).map (tv G)))) : W p l e R s m args below meth c H locs cells slots Q (F0 m pc ls (st.map (tv G))) := by
  intro T hT X
  obtain ⟨Q1, Q2⟩ : ∃ q : vw_C, vwCl[ci]? = some q ∧ q.1 = M'.1.cls := by
    have := hm.2.2.2.2
    cases hz : vwCl[ci]? with
    | none => rw [hz] at this; cases this
    | some q => rw [hz] at this; exact ⟨q, rfl, Option.some.inj this⟩
  obtain ⟨cellB, hcB, hoB, hclB⟩ := va_recv hKx.1 hP Q2.1 ((wo_at G σ (sh_obj hn.2.1)).trans (congrArg (fun z => some (G.2.1 a, z)) (cel_O hn.2.1)))
  rw [Q2.2] at hclB
  have hst' : st.map (tv G) = (av.map (tv G)).reverse ++ .ref (G.2.1 a) :: rest.map (tv G) := by
    rw [hst, List.map_append, List.map_reverse]
    rfl
  have hback : Back l R p e below s args M'.1 3 24 (PreOf R 0 0 (Pcx G (.ref a :: av) σ)) (PostOf (Qcx G Q') 0 0 (aX G)) :=
    back_of (bytes := M'.2.1) (maxL := M'.2.2.1) (ret := M'.2.2.2.1) h (blind_Pcx G _ σ) rfl rfl hR.1 (by
      have := hm.1.2.2.2.1
      have := hR.2.1
      show 24 + (M'.2.2.1 + 11) + 96 * d ≤ R.locals
      omega) (pay_in hts (ws_in hm.1)) List.mem_cons_self (fun a' U hW => word_at hW (gW_good hm.1.2.1) (hts _ hm.1.2.1))
  obtain ⟨v, vm1, ⟨U', l2, c2, s2⟩, hW1, X', ⟨g', mk, t, Lc, e1, e2, hq, h1, hLc, h2, h3⟩, go⟩ := callV X hx (C := M'.1.cls) (bytes := M'.2.1) (maxL := M'.2.2.1) (ret := M'.2.2.2.1) hown (hts _ hk) (hts _ hm.2.2.1) (hts _ hm.2.2.2.1) (hts _ hm.1.1) hm.1.2.2.1 hback (by rw [hT]; exact hcB) hoB hclB (g := F0 m pc ls (st.map (tv G))) rfl hml (argsL := av.map (tv G)) (rest := rest.map (tv G)) (len_of hm.2.1 (by simp; exact hn.1)) hst' (room24 hn.2.2) (by rw [hbc]; exact hd) (fun vm1 hW1 => ⟨hR.2.2.1, hR.2.2.2, (cal_pre (l := l) (d := 0) hT hP hS hKx vm1 hW1).2.2⟩)
  dsimp only [Pt.U, Pt.locs, Pt.cells, Pt.slots] at X' e1 e2 h1 h2 h3 go
  subst h1; subst h2; subst h3
  obtain ⟨⟨r, σ', hv, hQ, hP'⟩, hF⟩ := hq
  cases hv
  have hgo := k r σ' t.heap (locs ++ Lc) hQ hP' (cal_S hS (st0 := (T.setVm vm1).calling g' mk _) hT hF hLc)
  obtain ⟨t2, a1, b1⟩ := hgo U' e1 X'
  refine ⟨t2, go t2 ?_, b1⟩
  have he : (r.map (tv G)).toList ++ rest.map (tv G) = (r.toList ++ rest).map (tv G) := by cases r <;> simp
  rw [he]
  exact a1
end WCa
