-- items: the reference
theorem and1 (x : Int32) : x &&& 1 = 0 ∨ x &&& 1 = 1 := by
  have h : (x &&& 1).toBitVec.toNat ≤ 1 := by
    rw [Int32.toBitVec_and, BitVec.toNat_and]
    exact Nat.and_le_right
  have : (x &&& 1).toBitVec.toNat = 0 ∨ (x &&& 1).toBitVec.toNat = 1 := by omega
  rcases this with q | q
  · left
    apply Int32.toBitVec_inj.mp
    apply BitVec.eq_of_toNat_eq
    rw [q]
    rfl
  · right
    apply Int32.toBitVec_inj.mp
    apply BitVec.eq_of_toNat_eq
    rw [q]
    rfl
section MIt
variable {l : Launch} {G : GT} {d : Nat} {σ : Mm} {Q : Po} {T : Tp}
/-- a row of numbers read -/
def Rd (R : Nat) : Prop := R = 100 ∨ R = 102 ∨ R = 103 ∨ R = 104
theorem c_items {R : Nat} {x y : Int32} (hG : GX G) (s f0 p : Nat) (r : Nat → Int) (hs : s < 4) (hR : Rd R) (hlen : f0 + szB s ≤ lenI R) (hT : TM σ T) (hp : p ≤ T.n) (ha : σ.1 98 3 = jI (p : Int)) (hf : σ.1 98 4 = -1) (hr : ∀ j, j < szB s → σ.1 R (f0 + j) = jI (r j))
    (hq : ∀ τ : Mm, (∀ c, c ≠ 98 → c ≠ R → τ.1 c = σ.1 c) → τ.2 = σ.2 → (∀ k, k ≠ 3 → k ≠ 4 → k ≠ 18 → k ≠ 19 → τ.1 98 k = σ.1 98 k) → τ.1 98 3 = jI ((itF T s (T.n + 1 - p) p 0 r).1 : Int) → τ.1 98 4 = jI (itF T s (T.n + 1 - p) p 0 r).2.1 → (∀ j, j < szB s → τ.1 R (f0 + j) = jI ((itF T s (T.n + 1 - p) p 0 r).2.2 j)) → (∀ j, ¬ (f0 ≤ j ∧ j < f0 + szB s) → τ.1 R j = σ.1 R j) → Q none τ)
    (ex : x = jI (f0 : Int) := by first | rfl | assumption | (simp only [jlit, jneg, jadd, jsub, jmul]; done) | (simp only [jlit, jneg, jadd, jsub, jmul]; congr 1 <;> omega) | (congr 1 <;> omega)) (ey : y = jI (s : Int) := by first | rfl | assumption | (simp only [jlit, jneg, jadd, jsub, jmul]; done) | (simp only [jlit, jneg, jadd, jsub, jmul]; congr 1 <;> omega) | (congr 1 <;> omega)) : MW l G (d + 5) mX12_items [.ref 98, .ref R, .int x, .int y, .ref (210 + s)] σ Q := by
  have h1 := hT.1
  have hl9 : lenI R < 100000 := by rcases hR with rfl | rfl | rfl | rfl <;> decide
  have hR8 : R ≠ 98 := by unfold Rd at hR; omega
  have hR9 : R ≠ 99 := by unfold Rd at hR; omega
  have hS5 : St5 (210 + s) := by unfold St5; omega
  have hsz := len_sz s hs
  obtain ⟨E, hE⟩ : ∃ E, E = itF T s (T.n + 1 - p) p 0 r := ⟨_, rfl⟩
  rw [← hE] at hq
  -- at the head with the next sign's item
  have key : ∀ (m p : Nat) (met : Int32) (rr : Nat → Int) (τ : Mm), T.n < p + m → p ≤ T.n → (∀ c, c ≠ 98 → c ≠ R → τ.1 c = σ.1 c) → τ.2 = σ.2 → (∀ k, k ≠ 3 → k ≠ 18 → k ≠ 19 → τ.1 98 k = σ.1 98 k) → τ.1 98 3 = jI (sk T p : Int) → (∀ j, j < szB s → τ.1 R (f0 + j) = jI (rr j)) → (∀ j, ¬ (f0 ≤ j ∧ j < f0 + szB s) → τ.1 R j = σ.1 R j) → E = itF T s m p met rr → Wp l G (d + 5) mX12_items 14 [(0, .ref 98), (1, .ref R), (2, .int x), (3, .int y), (4, .ref (210 + s)), (5, .int met), (6, .int (jI (itW s (ch T (sk T p)))))] [] τ Q := by
    intro m
    induction m with
    | zero => intro p met rr τ hm hp; omega
    | succ m ih =>
      intro p met rr τ hm hp e1 e2 e3 e4 e5 e6 he
      have hk := sk_in hp
      have Tt : TM τ T := hT.fr (e3 2 (by decide) (by decide) (by decide)) (e1 99 (by decide) (Ne.symm hR9))
      have f4 : τ.1 98 4 = -1 := by rw [e3 4 (by decide) (by decide) (by decide)]; exact hf
      have wi := itW_in s (ch T (sk T p))
      rw [hsz] at wi
      unfold itF at he
      have sz14 : szB s ≤ 14 := by unfold szB; split <;> (try split) <;> omega
      refine wX12_items [(14, [0, 1, 2, 3, 4, 5, 6])] 80 ?_
      refine breq (itW s (ch T (sk T p))) (-1) (fun z => ?_) (fun z => ?_) (hx := rfl) (hy := rfl)
      · rw [if_pos z] at he
        rw [he] at hq
        exact hq τ e1 e2 (fun k k1 _ k3 k4 => e3 k k1 k3 k4) e4 (by rw [f4]; rfl) e5 e6
      · rw [if_neg z] at he
        obtain ⟨w, hw⟩ : ∃ w : Nat, itW s (ch T (sk T p)) = (w : Int) := ⟨(itW s (ch T (sk T p))).toNat, by omega⟩
        rw [hw] at he wi
        rw [show (w : Int).toNat = w from Int.toNat_natCast w] at he
        rw [hw]
        have hwl : w < szB s := by omega
        have hpn : sk T p < T.n := by
          by_cases q : sk T p < T.n
          · exact q
          · exfalso
            have hc : ch T (sk T p) = -1 := by unfold ch; rw [if_neg q]
            rw [hc] at hw
            have h4 : s = 0 ∨ s = 1 ∨ s = 2 ∨ s = 3 := by omega
            have : itW s (-1) = -1 := by rcases h4 with rfl | rfl | rfl | rfl <;> decide
            omega
        by_cases sn : seenB met w
        · rw [if_pos sn] at he
          rw [he] at hq
          have s1 : ((met >>> (jI (w : Int) &&& 31)) &&& 1) = 1 := by
            rcases and1 (met >>> (jI (w : Int) &&& 31)) with q | q
            · exact absurd q sn
            · exact q
          refine And.intro (fun _ => ?_) (fun q => absurd s1 q)
          refine c_fails _ e4 f4 ?_
          exact hq _ (fun c k1 k2 => by rw [uI_n k1]; exact e1 c k1 k2) e2 (fun k k1 k2 k3 k4 => by rw [uI_ne (Or.inr k2)]; exact e3 k k1 k3 k4) (by rw [uI_ne (Or.inr (by decide))]; exact e4) (uI_at _ _ _ _) (fun j hj => by rw [uI_n hR8]; exact e5 j hj) (fun j hj => by rw [uI_n hR8]; exact e6 j hj)
        · rw [if_neg sn] at he
          have s0 : ¬ ((met >>> (jI (w : Int) &&& 31)) &&& 1) = 1 := fun q => sn (by unfold seenB; rw [q]; decide)
          refine And.intro (fun q => absurd q s0) (fun _ => ?_)
          have ea1 : (uI τ 98 3 (τ.1 98 3 + 1)).1 98 3 = jI ((sk T p + 1 : Nat) : Int) := by
            rw [uI_at, e4]
            simp only [jlit, jadd]
            congr 1
          have hb := nuE_in (T := T) (p := sk T p + 1) (by omega)
          refine c_number (sk T p + 1) Tt.at (by omega) ea1 (by rw [uI_ne (Or.inr (by decide))]; exact f4) (fun ρ g1 g2 g3 g4 g5 => ?_)
          obtain ⟨e, he9⟩ : ∃ e, e = (nuE T (sk T p + 1)).1 := ⟨_, rfl⟩
          obtain ⟨v, hv9⟩ : ∃ v, v = (nuE T (sk T p + 1)).2.1 := ⟨_, rfl⟩
          obtain ⟨ft, hf9⟩ : ∃ ft, ft = (nuE T (sk T p + 1)).2.2 := ⟨_, rfl⟩
          rw [← he9, ← hv9, ← hf9] at he hb
          rw [← he9] at g4
          rw [← hf9] at g5
          rw [← hv9]
          refine stI (lenI R) (f0 + w) ?_ (hi := by rw [ex, jadd]; congr 1)
          obtain ⟨ρ1, hρ1⟩ : ∃ ρ1, ρ1 = uI ρ R (f0 + w) (jI v) := ⟨_, rfl⟩
          have r1 : ∀ c, c ≠ 98 → c ≠ R → ρ1.1 c = σ.1 c := fun c k1 k2 => by rw [hρ1, uI_n k2, g1 c k1, uI_n k1]; exact e1 c k1 k2
          have r2 : ρ1.2 = σ.2 := by rw [hρ1]; exact g2.trans e2
          have r3 : ∀ k, k ≠ 3 → k ≠ 4 → k ≠ 18 → k ≠ 19 → ρ1.1 98 k = σ.1 98 k := fun k k1 k2 k3 k4 => by rw [hρ1, uI_n (Ne.symm hR8), g3 k k1 k2, uI_ne (Or.inr k1)]; exact e3 k k1 k3 k4
          have r4 : ρ1.1 98 3 = jI (e : Int) := by rw [hρ1, uI_n (Ne.symm hR8)]; exact g4
          have r5 : ρ1.1 98 4 = jI ft := by rw [hρ1, uI_n (Ne.symm hR8)]; exact g5
          have r6 : ∀ j, j < szB s → ρ1.1 R (f0 + j) = jI (if j = w then v else rr j) := fun j hj => by
            by_cases q : j = w
            · rw [q, hρ1, uI_at, if_pos rfl]
            · rw [if_neg q, hρ1, uI_ne (Or.inr (by omega)), g1 R hR8, uI_n hR8]
              exact e5 j hj
          have r7 : ∀ j, ¬ (f0 ≤ j ∧ j < f0 + szB s) → ρ1.1 R j = σ.1 R j := fun j hj => by
            rw [hρ1, uI_ne (Or.inr (by omega)), g1 R hR8, uI_n hR8]
            exact e6 j hj
          rw [← hρ1]
          refine breq ft (-1) (fun z2 => ?_) (fun z2 => ?_) (hx := r5) (hy := rfl)
          · rw [if_neg (fun q => q z2)] at he
            have T1 : TM ρ1 T := hT.fr (r3 2 (by decide) (by decide) (by decide) (by decide)) (r1 99 (by decide) (Ne.symm hR9))
            have r5' : ρ1.1 98 4 = -1 := by rw [r5, z2]; rfl
            refine c_laysBounds s w hs hwl ?_ ey
            obtain ⟨ρ2, hρ2⟩ : ∃ ρ2, ρ2 = uI (uI ρ1 98 18 (loB s w)) 98 19 (hiB s w) := ⟨_, rfl⟩
            have t1 : ∀ c, c ≠ 98 → ρ2.1 c = ρ1.1 c := fun c hc => by rw [hρ2, uI_n hc, uI_n hc]
            have t3 : ∀ k, k ≠ 18 → k ≠ 19 → ρ2.1 98 k = ρ1.1 98 k := fun k k1 k2 => by rw [hρ2, uI_ne (Or.inr k2), uI_ne (Or.inr k1)]
            have t18 : ρ2.1 98 18 = loB s w := by rw [hρ2, uI_ne (Or.inr (by decide)), uI_at]
            have t19 : ρ2.1 98 19 = hiB s w := by rw [hρ2, uI_at]
            have t2 : ρ2.2 = σ.2 := by rw [hρ2]; exact r2
            rw [← hρ2]
            have bl := jI_R (loB s w)
            have bh := jI_R (hiB s w)
            refine ldI (lenI R) (f0 + w) (show _ = jI v by rw [t1 R hR8, r6 w hwl, if_pos rfl]) ?_ (hi := by rw [ex, jadd]; congr 1)
            refine c_isIn v (loB s w).toInt (hiB s w).toInt ?_ (by rw [jI_L (by omega)]) (by rw [t18, toI_L]) (by rw [t19, toI_L])
            refine brz _ (fun z3 => ?_) (fun z3 => ?_)
            · rw [if_pos z3] at he
              rw [he] at hq
              have he1 : 1 ≤ e := by omega
              have u3 : (uI ρ2 98 3 (ρ2.1 98 3 - 1)).1 98 3 = jI (((e - 1 : Nat)) : Int) := by
                rw [uI_at, t3 3 (by decide) (by decide), r4, show (1 : Int32) = jI 1 from rfl, jsub]
                congr 1
                omega
              have u4 : (uI ρ2 98 3 (ρ2.1 98 3 - 1)).1 98 4 = -1 := by
                rw [uI_ne (Or.inr (by decide)), t3 4 (by decide) (by decide)]
                exact r5'
              refine c_fails _ u3 u4 ?_
              refine hq _ (fun c k1 k2 => by rw [uI_n k1, uI_n k1, t1 c k1]; exact r1 c k1 k2) t2 (fun k k1 k2 k3 k4 => by rw [uI_ne (Or.inr k2), uI_ne (Or.inr k1), t3 k k3 k4]; exact r3 k k1 k2 k3 k4) (by rw [uI_ne (Or.inr (by decide))]; exact u3) ?_ (fun j hj => by rw [uI_n hR8, uI_n hR8, t1 R hR8]; exact r6 j hj) (fun j hj => by rw [uI_n hR8, uI_n hR8, t1 R hR8]; exact r7 j hj)
              rw [uI_at]
              show jI (((e - 1 : Nat)) : Int) = jI ((e : Int) - 1)
              congr 1
              omega
            · rw [if_neg (fun q => q z3)] at he
              have T2 : TM ρ2 T := T1.fr (t3 2 (by decide) (by decide)) (t1 99 (by decide))
              refine c_look (T.n - e) e rfl T2 (by omega) (by rw [t3 3 (by decide) (by decide)]; exact r4) ?_
              refine c_spotOf hG hS5 ?_
              have el : 210 + s + 10 = 220 + s := by omega
              rw [el]
              refine ih e (metB met w) (fun j => if j = w then v else rr j) _ (by omega) (by omega) (fun c k1 k2 => by rw [uI_n k1, t1 c k1]; exact r1 c k1 k2) t2 (fun k k1 k2 k3 => ?_) (uI_at _ _ _ _) (fun j hj => by rw [uI_n hR8, t1 R hR8]; exact r6 j hj) (fun j hj => by rw [uI_n hR8, t1 R hR8]; exact r7 j hj) he
              rw [uI_ne (Or.inr k1), t3 k k2 k3]
              by_cases k4 : k = 4
              · rw [k4, r5', hf]
              · exact r3 k k1 k4 k2 k3
          · rw [if_pos z2] at he
            rw [he] at hq
            exact hq ρ1 r1 r2 r3 r4 r5 r6 r7
  refine vX12_items [(14, [0, 1, 2, 3, 4, 5, 6])] 80 ?_
  refine c_look (T.n - p) p rfl hT hp ha ?_
  refine c_spotOf hG hS5 ?_
  have el : 210 + s + 10 = 220 + s := by omega
  rw [el]
  exact key (T.n + 1 - p) p 0 r _ (by omega) hp (fun c k1 _ => by rw [uI_n k1]) rfl (fun k k1 _ _ => by rw [uI_ne (Or.inr k1)]) (uI_at _ _ _ _) (fun j hj => by rw [uI_n hR8]; exact hr j hj) (fun j hj => by rw [uI_n hR8]) hE
end MIt
