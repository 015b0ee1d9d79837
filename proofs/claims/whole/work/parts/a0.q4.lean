-- items of a clause: the class
/-- the fault of a clause's items, -1 none -/
def itG (T : Tp) (E : Nat × Int × (Nat → Int)) : Int := if E.2.1 ≠ -1 then E.2.1 else if E.1 < T.n ∧ ch T E.1 ≠ 59 then (E.1 : Int) else -1
theorem itW_end (s : Nat) (hs : s < 4) : itW s (-1) = -1 ∧ itW s 59 = -1 := by
  have : s = 0 ∨ s = 1 ∨ s = 2 ∨ s = 3 := by omega
  rcases this with rfl | rfl | rfl | rfl <;> exact ⟨by decide, by decide⟩
section KIt
variable {l : Launch} {G : GT} {d : Nat} {σ : Mm} {Q : Po} {T : Tp}
/-- where the items of a sort of clause are put -/
def iR (s : Nat) : Nat := if s = 0 then 9 else 10
theorem k_itemsLoop {x y v : Int32} (hG : GX G) (s f0 : Nat) (hs : s < 4) (hf0 : if s = 0 then f0 = 0 else 1 ≤ f0 ∧ v = jI ((f0 - 1 : Nat) : Int)) (hlen : f0 + szB s ≤ lenI (iR s)) (hT : TK σ T) (E : Nat × Int × (Nat → Int)) (ex : x = jI (s : Int)) (ey : y = jI (frm s : Int))
    (hq : ∀ τ : Mm, (∀ c, c ≠ 8 → c ≠ iR s → τ.1 c = σ.1 c) → τ.2 = σ.2 → (∀ k, k ≠ 5 → k ≠ 6 → τ.1 8 k = σ.1 8 k) → (itG T E = -1 → τ.1 8 5 = jI (E.1 : Int) ∧ ∀ j, j < szB s → τ.1 (iR s) (f0 + j) = jI (E.2.2 j)) → (∀ j, ¬ (f0 ≤ j ∧ j < f0 + szB s) → τ.1 (iR s) j = σ.1 (iR s) j) → Q (some (.int (jI (itG T E)))) τ) :
    ∀ (m p tn : Nat) (met u : Int32) (rr : Nat → Int) (τ : Mm), T.n < p + m → p ≤ T.n → tn ≤ p → u = jI (tn : Int) → (∀ c, c ≠ 8 → c ≠ iR s → τ.1 c = σ.1 c) → τ.2 = σ.2 → (∀ k, k ≠ 5 → k ≠ 6 → τ.1 8 k = σ.1 8 k) → τ.1 8 5 = jI (p : Int) → (∀ j, j < szB s → τ.1 (iR s) (f0 + j) = jI (rr j)) → (∀ j, ¬ (f0 ≤ j ∧ j < f0 + szB s) → τ.1 (iR s) j = σ.1 (iR s) j) → E = itF T s m p met rr → Wp l G (d + 3) mX4_readItems 18 [(0, .ref 8), (1, .int x), (2, .int met), (3, .int y), (4, .int v), (5, .int u)] [] τ Q := by
  have h1 := hT.1
  have hf := frm_at s hs
  have hz := szB_in s
  have hsz := len_sz s hs
  have hend := itW_end s hs
  have hR8 : iR s ≠ 8 := by unfold iR; split <;> omega
  have hR67 : iR s ≠ 6 ∧ iR s ≠ 7 := by unfold iR; split <;> omega
  have hl9 : lenI (iR s) < 100000 := by
    have : iR s = 9 ∨ iR s = 10 := by unfold iR; split <;> omega
    rcases this with q | q <;> rw [q] <;> decide
  intro m
  induction m with
  | zero => intro p tn met u rr τ hm hp; omega
  | succ m ih =>
    intro p tn met u rr τ hm hp htn hu e1 e2 e3 e4 e5 e6 he
    have hk := sk_in hp
    have Tt : TK τ T := hT.fr (e1 6 (by decide) (Ne.symm hR67.1)) (e1 7 (by decide) (Ne.symm hR67.2))
    have wi := itW_in s (ch T (sk T p))
    rw [hsz] at wi
    unfold itF at he
    have cc := cz_in T (sk T p)
    -- ends without a fault
    have good : itW s (ch T (sk T p)) = -1 → itG T E = -1 → Q (some (.int (-1))) (uI τ 8 5 (jI (sk T p : Int))) := by
      intro z zg
      rw [if_pos z] at he
      have := hq (uI τ 8 5 (jI (sk T p : Int))) (fun c k1 k2 => by rw [uI_n k1]; exact e1 c k1 k2) e2 (fun k k1 k2 => by rw [uI_ne (Or.inr k1)]; exact e3 k k1 k2) (fun _ => ⟨by rw [uI_at, he], fun j hj => by rw [uI_n hR8, he]; exact e5 j hj⟩) (fun j hj => by rw [uI_n hR8]; exact e6 j hj)
      rw [zg] at this
      exact this
    -- ends with one
    have bad : ∀ (w : Int32) (ρ : Mm), w = jI (itG T E) → itG T E ≠ -1 → (∀ c, c ≠ 8 → ρ.1 c = τ.1 c) → ρ.2 = τ.2 → (∀ k, k ≠ 5 → k ≠ 6 → ρ.1 8 k = τ.1 8 k) → Q (some (.int w)) ρ := by
      intro w ρ hw zg g1 g2 g3
      rw [hw]
      exact hq ρ (fun c k1 k2 => (g1 c k1).trans (e1 c k1 k2)) (g2.trans e2) (fun k k1 k2 => (g3 k k1 k2).trans (e3 k k1 k2)) (fun z => absurd z zg) (fun j hj => by rw [g1 _ hR8]; exact e6 j hj)
    have a5 := uI_at τ 8 5 (jI (sk T p : Int))
    have T5 : TK (uI τ 8 5 (jI (sk T p : Int))) T := Tt.rd
    refine wX4_readItems [(18, [0, 1, 2, 3, 4, 5])] 120 ?_
    refine brlt 320 (tn : Int) (fun z => by omega) (fun _ => ?_) (hx := rfl) (hy := hu)
    refine k_skipBlanks p Tt hp e4 ?_
    refine brle (T.n : Int) (sk T p : Int) (fun z => ?_) (fun zl => ?_) (hx := T5.2.1) (hy := a5)
    · have hc : ch T (sk T p) = -1 := by unfold ch; rw [if_neg (by omega)]
      have z9 : itW s (ch T (sk T p)) = -1 := by rw [hc]; exact hend.1
      refine good z9 ?_
      rw [if_pos z9] at he
      rw [he]
      unfold itG
      rw [if_neg (fun q => q rfl), if_neg (fun q => by have : sk T p < T.n := q.1; omega)]
    · have ecz : cz T (sk T p) = ch T (sk T p) := by unfold cz ch; rw [if_pos (by omega), if_pos (by omega)]
      refine k_at (sk T p) T5 (by omega) ?_ a5
      refine breq (cz T (sk T p)) 59 (fun z => ?_) (fun z => ?_) (hx := rfl) (hy := rfl)
      · have z59 : ch T (sk T p) = 59 := by rw [← ecz]; exact z
        have z9 : itW s (ch T (sk T p)) = -1 := by rw [z59]; exact hend.2
        refine good z9 ?_
        rw [if_pos z9] at he
        rw [he]
        unfold itG
        rw [if_neg (fun q => q rfl), if_neg (fun q => q.2 z59)]
      · have z59 : ch T (sk T p) ≠ 59 := by rw [← ecz]; exact z
        refine And.intro hG ?_
        refine And.intro hG ?_
        refine And.intro hG ?_
        refine ldI (f := fun k => (stc 202).getD k 0) 5 (s + 1) hf.2.1 ?_ (hi := by rw [ex]; simp only [jlit, jadd]; congr 1)
        refine k_at (sk T p) T5 (by omega) ?_ a5
        refine k_placeOf hG 22 (frm s) (frm s + szB s) (Or.inr (Or.inl ⟨rfl, rfl⟩)) (by omega) hf.2.2 ?_ ey rfl
        rw [show frm s + szB s - frm s = szB s by omega, plc_it s hs, ecz]
        by_cases z9 : itW s (ch T (sk T p)) = -1
        · rw [if_pos z9]
          refine breq (-1) (-1) (fun _ => ?_) (fun q => absurd rfl q) (hx := rfl) (hy := rfl)
          rw [if_pos z9] at he
          have hg : itG T E = (sk T p : Int) := by
            rw [he]
            unfold itG
            rw [if_neg (fun q => q rfl), if_pos (show sk T p < T.n ∧ ch T (sk T p) ≠ 59 from ⟨by omega, z59⟩)]
          refine bad _ _ (by rw [a5, hg]) (by omega) (fun c hc => uI_n hc) rfl (fun k k1 _ => uI_ne (Or.inr k1))
        · rw [if_neg z9] at he ⊢
          obtain ⟨w, hw⟩ : ∃ w : Nat, itW s (ch T (sk T p)) = (w : Int) := ⟨(itW s (ch T (sk T p))).toNat, by omega⟩
          rw [hw] at he wi ⊢
          rw [show (w : Int).toNat = w from Int.toNat_natCast w] at he
          have hwl : w < szB s := by omega
          obtain ⟨it, hit⟩ : ∃ it, it = jI ((frm s : Int) + (w : Int)) := ⟨_, rfl⟩
          rw [← hit]
          have hsub : it - y = jI (w : Int) := by rw [hit, ey, jsub]; congr 1; omega
          refine breq ((frm s : Int) + (w : Int)) (-1) (fun q => by omega) (fun _ => ?_) (hx := hit) (hy := rfl)
          by_cases sn : seenB met w
          · rw [if_pos sn] at he
            have s1 : ¬ ((met >>> ((it - y) &&& 31)) &&& 1) = 0 := by rw [hsub]; exact sn
            refine And.intro (fun q => absurd q s1) (fun _ => ?_)
            have hg : itG T E = (sk T p : Int) := by
              rw [he]
              unfold itG
              rw [if_pos (show (sk T p : Int) ≠ -1 by omega)]
            refine bad _ _ (by rw [a5, hg]) (by omega) (fun c hc => uI_n hc) rfl (fun k k1 _ => uI_ne (Or.inr k1))
          · rw [if_neg sn] at he
            have s0 : ((met >>> ((it - y) &&& 31)) &&& 1) = 0 := by
              rw [hsub]
              by_cases q : ((met >>> (jI (w : Int) &&& 31)) &&& 1) = 0
              · exact q
              · exact absurd q sn
            refine And.intro (fun _ => ?_) (fun q => absurd s0 q)
            have hmet : met ||| (1 <<< ((it - y) &&& 31)) = metB met w := by rw [hsub]; rfl
            refine And.intro hG ?_
            refine And.intro hG ?_
            refine ldI (f := fun k => (stc 204).getD k 0) 22 (frm s + w) (show _ = loB s w from rfl) ?_ (hi := by rw [hit]; congr 1)
            refine And.intro hG ?_
            refine And.intro hG ?_
            refine ldI (f := fun k => (stc 205).getD k 0) 22 (frm s + w) (show _ = hiB s w from rfl) ?_ (hi := by rw [hit]; congr 1)
            have hb := nuE_in (T := T) (p := sk T p + 1) (by omega)
            refine k_readNumber (sk T p + 1) (loB s w).toInt (hiB s w).toInt T5.rd (by omega) (by rw [uI_at, a5]; simp only [jlit, jadd]; congr 1) (jI_R _) (jI_R _) (fun ρ g1 g2 g3 g4 g5 => ?_) (jI_of _).symm (jI_of _).symm
            have q1 : ∀ c, c ≠ 8 → ρ.1 c = τ.1 c := fun c hc => by rw [g1 c hc, uI_n hc, uI_n hc]
            have q3 : ∀ k, k ≠ 5 → k ≠ 6 → ρ.1 8 k = τ.1 8 k := fun k k1 k2 => by rw [g3 k k1 k2, uI_ne (Or.inr k1), uI_ne (Or.inr k1)]
            have hnb : R31 (nuB T (sk T p + 1) (loB s w).toInt (hiB s w).toInt) ∧ -1 ≤ nuB T (sk T p + 1) (loB s w).toInt (hiB s w).toInt := by
              unfold nuB
              split
              · omega
              · split <;> omega
            refine breq (nuB T (sk T p + 1) (loB s w).toInt (hiB s w).toInt) (-1) (fun z2 => ?_) (fun z2 => ?_) (hx := rfl) (hy := rfl)
            · unfold nuB at z2
              have nf : (nuE T (sk T p + 1)).2.2 = -1 := by
                by_cases q : (nuE T (sk T p + 1)).2.2 = -1
                · exact q
                · rw [if_pos q] at z2
                  exact absurd z2 q
              rw [if_neg (fun q => q nf)] at z2 he
              have nb : (loB s w).toInt ≤ (nuE T (sk T p + 1)).2.1 ∧ (nuE T (sk T p + 1)).2.1 ≤ (hiB s w).toInt := by
                by_cases q : (loB s w).toInt ≤ (nuE T (sk T p + 1)).2.1 ∧ (nuE T (sk T p + 1)).2.1 ≤ (hiB s w).toInt
                · exact q
                · rw [if_neg q] at z2
                  have := hb.2.2.1 nf
                  omega
              rw [if_neg (fun q => q nb)] at he
              have g6 := g5 nf
              have := hb.2.2.1 nf
              have cont : Wp l G (d + 3) mX4_readItems 18 [(0, .ref 8), (1, .int x), (2, .int (met ||| (1 <<< ((it - y) &&& 31)))), (3, .int y), (4, .int v), (5, .int (u + 1))] [] (uI ρ (iR s) (f0 + w) (ρ.1 8 6)) Q := by
                rw [hmet]
                refine ih (nuE T (sk T p + 1)).1 (tn + 1) (metB met w) _ (fun j => if j = w then (nuE T (sk T p + 1)).2.1 else rr j) _ (by omega) hb.2.1 (by omega) (by rw [hu]; simp only [jlit, jadd]; congr 1) (fun c k1 k2 => by rw [uI_n k2, q1 c k1]; exact e1 c k1 k2) (g2.trans e2) (fun k k1 k2 => by rw [uI_n (Ne.symm hR8), q3 k k1 k2]; exact e3 k k1 k2) (by rw [uI_n (Ne.symm hR8)]; exact g4) (fun j hj => ?_) (fun j hj => ?_) he
                · by_cases q : j = w
                  · rw [if_pos q, q, uI_at]
                    exact g6
                  · rw [if_neg q, uI_ne (Or.inr (by omega)), q1 _ hR8]
                    exact e5 j hj
                · rw [uI_ne (Or.inr (by omega)), q1 _ hR8]
                  exact e6 j hj
              refine breq (s : Int) 0 (fun zs => ?_) (fun zs => ?_) (hx := ex) (hy := rfl)
              · have zs' : s = 0 := by omega
                subst zs'
                rw [if_pos rfl] at hf0
                subst hf0
                refine stI 14 (0 + w) ?_ (hz := by have : szB 0 = 14 := rfl; omega) (hi := by rw [hit]; congr 1)
                exact cont
              · have zs' : ¬ s = 0 := by omega
                rw [if_neg zs'] at hf0
                have eR : iR s = 10 := by unfold iR; rw [if_neg zs']
                rw [eR] at cont hlen
                refine stI 112 (f0 + w) ?_ (hz := by have : f0 + szB s ≤ 112 := hlen; omega) (hi := by rw [hit, hf0.2, ey]; simp only [jlit, jadd, jsub]; congr 1; omega)
                exact cont
            · have hg : itG T E = nuB T (sk T p + 1) (loB s w).toInt (hiB s w).toInt := by
                unfold nuB at z2 ⊢
                by_cases nf : (nuE T (sk T p + 1)).2.2 = -1
                · rw [if_neg (fun q => q nf)] at z2 he ⊢
                  by_cases nb : (loB s w).toInt ≤ (nuE T (sk T p + 1)).2.1 ∧ (nuE T (sk T p + 1)).2.1 ≤ (hiB s w).toInt
                  · rw [if_pos nb] at z2
                    exact absurd rfl z2
                  · rw [if_neg nb] at z2 ⊢
                    rw [if_pos nb] at he
                    rw [he]
                    unfold itG
                    rw [if_pos z2]
                · rw [if_pos nf] at he ⊢
                  rw [he]
                  unfold itG
                  rw [if_pos nf]
              exact bad _ ρ (by rw [hg]) (by rw [hg]; exact z2) q1 g2 q3
end KIt
