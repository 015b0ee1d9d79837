-- scripts read
def scN (T : Tp) (p : Nat) : Nat × Int × (Nat → Int) := snF T (nuC (stW (ch T (sk T p))).toNat) 0 (sk T p + 1) (fun _ => -1)
def scL (T : Tp) (p : Nat) (L : Pl) : Pl := L ++ [((stW (ch T (sk T p))).toNat, (scN T p).2.2)]
/-- the fault (-1 none), the steps -/
def scF (T : Tp) : Nat → Nat → Pl → Int × Pl
  | 0, p, L => ((p : Int), L)
  | m + 1, p, L =>
    if stW (ch T (sk T p)) = -1 then ((sk T p : Int), L)
    else if (scN T p).2.1 ≠ -1 then ((scN T p).2.1, L)
    else if ¬ sk T (scN T p).1 < T.n then (-1, scL T p L)
    else if ch T (sk T (scN T p).1) ≠ 59 ∨ 16 ≤ L.length + 1 then ((sk T (scN T p).1 : Int), L)
    else scF T m (sk T (scN T p).1 + 1) (scL T p L)
def SW (L : Pl) : Prop := ∀ q ∈ L, q.1 < 10 ∧ ∀ j, -1 ≤ q.2 j ∧ q.2 j ≤ 9999
theorem scN_in {T : Tp} {p : Nat} (hp : sk T p < T.n) : (sk T p < (scN T p).1 ∧ (scN T p).1 ≤ T.n) ∧ (-1 ≤ (scN T p).2.1 ∧ (scN T p).2.1 ≤ T.n) ∧ (∀ j, -1 ≤ (scN T p).2.2 j ∧ (scN T p).2.2 j ≤ 9999) := by
  have h := snF_in T (nuC (stW (ch T (sk T p))).toNat) 0 (sk T p + 1) (fun _ => -1) (by omega) (fun _ => by omega)
  unfold scN
  exact ⟨⟨by omega, h.1.2⟩, h.2.1, h.2.2⟩
theorem SW.add {T : Tp} {p : Nat} {L : Pl} (h : SW L) (hp : sk T p < T.n) : SW (scL T p L) := by
  intro q hq
  rcases List.mem_append.mp hq with k | k
  · exact h q k
  · rw [List.mem_singleton.mp k]
    have := stW_in (ch T (sk T p))
    exact ⟨show (stW (ch T (sk T p))).toNat < 10 by omega, (scN_in hp).2.2⟩
theorem scL_len (T : Tp) (p : Nat) (L : Pl) : (scL T p L).length = L.length + 1 := by unfold scL; rw [List.length_append]; rfl
/-- the steps that the class's reader holds; the reference's -/
def SPK (σ : Mm) (L : Pl) : Prop := σ.1 8 2 = jI (L.length : Int) ∧ ∀ i q, L[i]? = some q → σ.1 10 (4 * i) = jI (q.1 : Int) ∧ ∀ w, w < 3 → σ.1 10 (4 * i + 1 + w) = jI (q.2 w)
def SPM (σ : Mm) (L : Pl) : Prop := ∀ i q, L[i]? = some q → σ.1 106 (256 + 4 * i) = jI (q.1 : Int) ∧ ∀ w, w < 3 → σ.1 106 (256 + 4 * i + 1 + w) = jI (q.2 w)
theorem sp_add {g f : Nat → Int32} {o w : Nat} {v : Nat → Int} {L : Pl} (h : ∀ i q, L[i]? = some q → f (o + 4 * i) = jI (q.1 : Int) ∧ ∀ w, w < 3 → f (o + 4 * i + 1 + w) = jI (q.2 w)) (h1 : ∀ j, j < o + 4 * L.length → g j = f j) (h2 : g (o + 4 * L.length) = jI (w : Int)) (h3 : ∀ j, j < 3 → g (o + 4 * L.length + 1 + j) = jI (v j)) : ∀ i q, (L ++ [(w, v)])[i]? = some q → g (o + 4 * i) = jI (q.1 : Int) ∧ ∀ w, w < 3 → g (o + 4 * i + 1 + w) = jI (q.2 w) := by
  intro i q hq
  by_cases hi : i < L.length
  · rw [List.getElem?_append_left hi] at hq
    have := h i q hq
    rw [h1 _ (by omega)]
    exact ⟨this.1, fun w hw => by rw [h1 _ (by omega)]; exact this.2 w hw⟩
  · rw [List.getElem?_append_right (by omega)] at hq
    have hi0 : i - L.length = 0 := by
      have := (List.getElem?_eq_some_iff.mp hq).1
      have e1 : [(w, v)].length = 1 := rfl
      omega
    rw [hi0] at hq
    have hq : (w, v) = q := Option.some.inj hq
    rw [show i = L.length by omega, ← hq]
    exact ⟨h2, h3⟩
section MSc
variable {l : Launch} {G : GT} {d : Nat} {σ : Mm} {Q : Po} {T : Tp}
theorem c_readScript (hG : GX G) (R : Int × Pl) (hT : TM σ T) (hR : R = scF T 16 0 []) (ha : σ.1 98 3 = jI 0) (hf : σ.1 98 4 = -1)
    (hq : ∀ τ : Mm, (∀ c, c ≠ 98 → c ≠ 106 → c ≠ 107 → τ.1 c = σ.1 c) → τ.2 = σ.2 → (∀ k, k ≠ 3 → k ≠ 4 → τ.1 98 k = σ.1 98 k) → τ.1 98 4 = jI R.1 → (R.1 = -1 → SPM τ R.2 ∧ τ.1 107 4 = jI (R.2.length : Int) ∧ SW R.2 ∧ 1 ≤ R.2.length ∧ R.2.length ≤ 16) → (∀ j, j < 256 → τ.1 106 j = σ.1 106 j) → (∀ j, j < 4 → τ.1 107 j = σ.1 107 j) → Q none τ) : MW l G (d + 6) mX12_readScript [.ref 98] σ Q := by
  have h1 := hT.1
  have key : ∀ (m p : Nat) (u : Int32) (L : Pl) (τ : Mm), L.length + m = 16 → L.length < 16 → p ≤ T.n → u = jI (L.length : Int) → (∀ c, c ≠ 98 → c ≠ 106 → τ.1 c = σ.1 c) → τ.2 = σ.2 → (∀ k, k ≠ 3 → τ.1 98 k = σ.1 98 k) → τ.1 98 3 = jI (p : Int) → SPM τ L → (∀ j, j < 256 → τ.1 106 j = σ.1 106 j) → SW L → R = scF T m p L → Wp l G (d + 6) mX12_readScript 4 [(0, .ref 98), (1, .int u), (2, .int 1)] [] τ Q := by
    intro m
    induction m with
    | zero => intro p u L τ hm hlt; omega
    | succ m ih =>
      intro p u L τ hm hlt hp hu e1 e2 e3 e4 e5 e6 e7 he
      have hk := sk_in hp
      have f4 : τ.1 98 4 = -1 := by rw [e3 4 (by decide)]; exact hf
      have Tt : TM τ T := hT.fr (e3 2 (by decide)) (e1 99 (by decide) (by decide))
      unfold scF at he
      refine wX12_readScript [(4, [0, 1, 2])] 80 ?_
      refine And.intro (fun q => absurd q (by decide)) (fun _ => ?_)
      refine c_readStep hG p L.length hlt Tt hp e4 f4 (fun z ρ g1 g2 g3 g4 => ?_) (fun w hw hpn hst ρ g1 g2 g3 g4 g5 g6 => ?_) hu
      · rw [if_pos z] at he
        refine breq (sk T p : Int) (-1) (fun q => by omega) (fun _ => ?_) (hx := g4) (hy := rfl)
        exact hq ρ (fun c k1 k2 k3 => (g1 c k1).trans (e1 c k1 k2)) (g2.trans e2) (fun k k1 k2 => (g3 k k1 k2).trans (e3 k k1)) (by rw [he]; exact g4) (fun z => by rw [he] at z; exact absurd (show (sk T p : Int) = -1 from z) (by omega)) (fun j hj => by rw [g1 106 (by decide)]; exact e6 j hj) (fun j hj => by rw [g1 107 (by decide), e1 107 (by decide) (by decide)])
      · have ew : (stW (ch T (sk T p))).toNat = w := by rw [hst]; exact Int.toNat_natCast w
        have esc : snF T (nuC w) 0 (sk T p + 1) (fun _ => -1) = scN T p := by unfold scN; rw [ew]
        rw [esc] at g4 g5
        have hsn := scN_in hpn
        rw [if_neg (by rw [hst]; omega)] at he
        have q1 : ∀ c, c ≠ 98 → c ≠ 106 → ρ.1 c = σ.1 c := fun c k1 k2 => (g1 c k1 k2).trans (e1 c k1 k2)
        have q3 : ∀ k, k ≠ 3 → k ≠ 4 → ρ.1 98 k = σ.1 98 k := fun k k1 k2 => (g3 k k1 k2).trans (e3 k k1)
        have q6 : ∀ j, j < 256 → ρ.1 106 j = σ.1 106 j := fun j hj => by rw [g6 j (by omega)]; exact e6 j hj
        by_cases zf : (scN T p).2.1 = -1
        · rw [if_neg (fun q => q zf)] at he
          obtain ⟨g51, g52, g53⟩ := g5 zf
          have f4r : ρ.1 98 4 = -1 := by rw [g4, zf]; rfl
          have Tr : TM ρ T := hT.fr (q3 2 (by decide) (by decide)) (q1 99 (by decide) (by decide))
          have hL : SPM ρ (scL T p L) := by
            unfold scL
            rw [ew]
            exact sp_add (o := 256) e5 (fun j hj => g6 j hj) g52 g53
          have hSW := e7.add hpn
          have hlen := scL_len T p L
          have hu1 : u + 1 = jI ((scL T p L).length : Int) := by rw [hu, hlen]; simp only [jlit, jadd]; congr 1
          have hk2 := sk_in hsn.1.2
          obtain ⟨e, hee⟩ : ∃ e, e = sk T (scN T p).1 := ⟨_, rfl⟩
          rw [← hee] at he hk2
          have ce := ch_in T e
          obtain ⟨ρ1, hρ1⟩ : ∃ ρ1, ρ1 = uI ρ 98 3 (jI (e : Int)) := ⟨_, rfl⟩
          have r3 : ρ1.1 98 3 = jI (e : Int) := by rw [hρ1, uI_at]
          have rk : ∀ k, k ≠ 3 → ρ1.1 98 k = ρ.1 98 k := fun k hk => by rw [hρ1, uI_ne (Or.inr hk)]
          have rc : ∀ c, c ≠ 98 → ρ1.1 c = ρ.1 c := fun c hc => by rw [hρ1, uI_n hc]
          have r4 : ρ1.1 98 4 = -1 := by rw [rk 4 (by decide)]; exact f4r
          have r2 : ρ1.2 = σ.2 := by rw [hρ1]; exact g2.trans e2
          have T1 : TM ρ1 T := Tr.fr (rk 2 (by decide)) (rc 99 (by decide))
          have x1 : ∀ c, c ≠ 98 → c ≠ 106 → ρ1.1 c = σ.1 c := fun c k1 k2 => (rc c k1).trans (q1 c k1 k2)
          have x3 : ∀ k, k ≠ 3 → ρ1.1 98 k = σ.1 98 k := fun k hk => by
            by_cases q : k = 4
            · rw [q, r4, hf]
            · rw [rk k hk]
              exact q3 k hk q
          have hL1 : SPM ρ1 (scL T p L) := fun i q hi => by rw [rc 106 (by decide)]; exact hL i q hi
          refine breq (-1) (-1) (fun _ => ?_) (fun q => absurd rfl q) (hx := f4r) (hy := rfl)
          refine c_look (T.n - (scN T p).1) (scN T p).1 rfl Tr hsn.1.2 g51 ?_
          rw [← hee, ← hρ1]
          have hsk : sk T e = e := by rw [hee]; exact sk_sk T _
          refine breq (ch T e) 59 (fun z => ?_) (fun z => ?_) (hx := rfl) (hy := rfl)
          · have hen : e < T.n := by
              by_cases q : e < T.n
              · exact q
              · unfold ch at z
                rw [if_neg q] at z
                omega
            rw [if_neg (fun q => q hen)] at he
            refine And.intro (fun q => absurd q (by decide)) (fun _ => ?_)
            refine breq ((scL T p L).length : Int) 16 (fun q => ?_) (fun q => ?_) (hx := hu1) (hy := rfl)
            · rw [if_pos (Or.inr (by omega))] at he
              refine c_fails _ r3 r4 ?_
              exact hq _ (fun c k1 k2 k3 => by rw [uI_n k1]; exact x1 c k1 k2) r2 (fun k k1 k2 => by rw [uI_ne (Or.inr k2)]; exact x3 k k1) (by rw [uI_at, he]) (fun z => by rw [he] at z; exact absurd (show (e : Int) = -1 from z) (by omega)) (fun j hj => by rw [uI_n (by decide), rc 106 (by decide)]; exact q6 j hj) (fun j hj => by rw [uI_n (by decide), x1 107 (by decide) (by decide)])
            · rw [if_neg (fun k => by rcases k with k | k; exact k z; omega)] at he
              refine And.intro (fun q => absurd q (by decide)) (fun _ => ?_)
              refine ih (e + 1) _ _ _ (by omega) (by omega) (by omega) hu1 (fun c k1 k2 => by rw [uI_n k1]; exact x1 c k1 k2) r2 (fun k hk => by rw [uI_ne (Or.inr hk)]; exact x3 k hk) (by rw [uI_at, r3]; simp only [jlit, jadd]; congr 1) (fun i q hi => by rw [uI_n (by decide)]; exact hL1 i q hi) (fun j hj => by rw [uI_n (by decide), rc 106 (by decide)]; exact q6 j hj) hSW he
          · refine And.intro (fun _ => ?_) (fun q => absurd rfl q)
            refine And.intro (fun _ => ?_) (fun q => absurd rfl q)
            refine wX12_readScript [] 60 ?_
            refine And.intro (fun _ => ?_) (fun q => absurd rfl q)
            refine stI 5 4 ?_ (hi := rfl)
            obtain ⟨ρ2, hρ2⟩ : ∃ ρ2, ρ2 = uI ρ1 107 4 (u + 1) := ⟨_, rfl⟩
            rw [← hρ2]
            have y1 : ∀ c, c ≠ 107 → ρ2.1 c = ρ1.1 c := fun c hc => by rw [hρ2, uI_n hc]
            have T2 : TM ρ2 T := T1.fr (by rw [y1 98 (by decide)]) (y1 99 (by decide))
            refine c_look (T.n - e) e rfl T2 hk2.2 (by rw [y1 98 (by decide)]; exact r3) ?_
            have ide : uI ρ2 98 3 (jI (e : Int)) = ρ2 := uI_id (by rw [y1 98 (by decide)]; exact r3)
            rw [hsk, ide]
            have y7 : ∀ j, j < 4 → ρ2.1 107 j = σ.1 107 j := fun j hj => by rw [hρ2, uI_ne (Or.inr (by omega)), x1 107 (by decide) (by decide)]
            have y6 : ∀ j, j < 256 → ρ2.1 106 j = σ.1 106 j := fun j hj => by rw [y1 106 (by decide), rc 106 (by decide)]; exact q6 j hj
            refine breq (ch T e) (-1) (fun z2 => ?_) (fun z2 => ?_) (hx := rfl) (hy := rfl)
            · have hen : ¬ e < T.n := by
                intro q
                unfold ch at z2
                rw [if_pos q] at z2
                have := bt_in T e
                omega
              rw [if_pos hen] at he
              refine hq ρ2 (fun c k1 k2 k3 => (y1 c k3).trans (x1 c k1 k2)) (by rw [hρ2]; exact r2) (fun k k1 _ => by rw [y1 98 (by decide)]; exact x3 k k1) (by rw [he, y1 98 (by decide)]; exact r4) (fun _ => ?_) y6 y7
              rw [he]
              exact ⟨fun i q hi => by rw [y1 106 (by decide)]; exact hL1 i q hi, by rw [hρ2, uI_at]; exact hu1, hSW, by show 1 ≤ (scL T p L).length; omega, by show (scL T p L).length ≤ 16; omega⟩
            · have hen : e < T.n := by
                by_cases q : e < T.n
                · exact q
                · exfalso
                  apply z2
                  unfold ch
                  rw [if_neg q]
              rw [if_neg (fun q => q hen), if_pos (Or.inl z)] at he
              refine c_fails (jI (e : Int)) (by rw [y1 98 (by decide)]; exact r3) (by rw [y1 98 (by decide)]; exact r4) ?_
              exact hq _ (fun c k1 k2 k3 => by rw [uI_n k1, y1 c k3]; exact x1 c k1 k2) (by rw [hρ2]; exact r2) (fun k k1 k2 => by rw [uI_ne (Or.inr k2), y1 98 (by decide)]; exact x3 k k1) (by rw [uI_at, he]) (fun z => by rw [he] at z; exact absurd (show (e : Int) = -1 from z) (by omega)) (fun j hj => by rw [uI_n (by decide)]; exact y6 j hj) (fun j hj => by rw [uI_n (by decide)]; exact y7 j hj)
        · rw [if_pos zf] at he
          refine breq (scN T p).2.1 (-1) (fun q => absurd q zf) (fun _ => ?_) (hx := g4) (hy := rfl)
          exact hq ρ (fun c k1 k2 _ => q1 c k1 k2) (g2.trans e2) q3 (by rw [he]; exact g4) (fun z => by rw [he] at z; exact absurd z zf) q6 (fun j hj => by rw [q1 107 (by decide) (by decide)])
  refine vX12_readScript [(4, [0, 1, 2])] 20 ?_
  exact key 16 0 _ [] σ rfl (by show 0 < 16; omega) (by omega) rfl (fun _ _ _ => rfl) rfl (fun _ _ => rfl) ha (fun i q hi => by simp at hi) (fun _ _ => rfl) (fun q hq9 => by simp at hq9) hR
end MSc
section KSc
variable {l : Launch} {G : GT} {d : Nat} {σ : Mm} {Q : Po} {T : Tp}
theorem k_readSteps (hG : GX G) (R : Int × Pl) (hT : TK σ T) (hR : R = scF T 16 0 []) (ha : σ.1 8 5 = jI 0) (h2 : σ.1 8 2 = jI 0)
    (hq : ∀ τ : Mm, (∀ c, c ≠ 8 → c ≠ 10 → τ.1 c = σ.1 c) → τ.2 = σ.2 → (∀ k, k ≠ 2 → k ≠ 5 → k ≠ 6 → τ.1 8 k = σ.1 8 k) → (R.1 = -1 → SPK τ R.2 ∧ SW R.2 ∧ 1 ≤ R.2.length ∧ R.2.length ≤ 16) → Q (some (.int (jI R.1))) τ) : MW l G (d + 4) mX4_readSteps [.ref 8] σ Q := by
  have h1 := hT.1
  have key : ∀ (m p : Nat) (u : Int32) (L : Pl) (τ : Mm), L.length + m = 16 → L.length < 16 → p ≤ T.n → u = jI (L.length : Int) → (∀ c, c ≠ 8 → c ≠ 10 → τ.1 c = σ.1 c) → τ.2 = σ.2 → (∀ k, k ≠ 2 → k ≠ 5 → k ≠ 6 → τ.1 8 k = σ.1 8 k) → τ.1 8 5 = jI (p : Int) → SPK τ L → SW L → R = scF T m p L → Wp l G (d + 4) mX4_readSteps 2 [(0, .ref 8), (1, .int u)] [] τ Q := by
    intro m
    induction m with
    | zero => intro p u L τ hm hlt; omega
    | succ m ih =>
      intro p u L τ hm hlt hp hu e1 e2 e3 e4 e5 e7 he
      have hk := sk_in hp
      have Tt : TK τ T := hT.fr (e1 6 (by decide) (by decide)) (e1 7 (by decide) (by decide))
      have a5 := uI_at τ 8 5 (jI (sk T p : Int))
      have T5 : TK (uI τ 8 5 (jI (sk T p : Int))) T := Tt.rd
      have cc := cz_in T (sk T p)
      have wi := stW_in (ch T (sk T p))
      have ekd : stW (cz T (sk T p)) = stW (ch T (sk T p)) := by
        by_cases q : sk T p < T.n
        · unfold cz ch
          rw [if_pos q, if_pos q]
        · unfold cz ch
          rw [if_neg q, if_neg q, stW_end.1, stW_end.2]
      unfold scF at he
      refine wX4_readSteps [(2, [0, 1])] 100 ?_
      refine brle 16 (L.length : Int) (fun q => by omega) (fun _ => ?_) (hx := rfl) (hy := hu)
      refine k_skipBlanks p Tt hp e4 ?_
      refine And.intro hG ?_
      refine And.intro hG ?_
      refine And.intro hG ?_
      refine k_at (sk T p) T5 (by omega) ?_ a5
      refine k_placeOf hG 10 0 10 (Or.inr (Or.inr ⟨rfl, rfl⟩)) (by omega) (by omega) ?_ rfl rfl
      rw [show plc (stc 207) (jI (cz T (sk T p))) (10 - 0) 0 = stW (ch T (sk T p)) from ekd]
      refine breq (stW (ch T (sk T p))) (-1) (fun z => ?_) (fun z => ?_) (hx := rfl) (hy := rfl)
      · rw [if_pos z] at he
        have := hq (uI τ 8 5 (jI (sk T p : Int))) (fun c k1 k2 => by rw [uI_n k1]; exact e1 c k1 k2) e2 (fun k k1 k2 k3 => by rw [uI_ne (Or.inr k2)]; exact e3 k k1 k2 k3) (fun z => by rw [he] at z; exact absurd (show (sk T p : Int) = -1 from z) (by omega))
        rw [he, ← a5] at this
        exact this
      · obtain ⟨w, hw⟩ : ∃ w : Nat, stW (ch T (sk T p)) = (w : Int) := ⟨(stW (ch T (sk T p))).toNat, by omega⟩
        have hw10 : w < 10 := by omega
        have ew : (stW (ch T (sk T p))).toNat = w := by rw [hw]; exact Int.toNat_natCast w
        have hpn : sk T p < T.n := by
          by_cases q : sk T p < T.n
          · exact q
          · exfalso
            have hc9 : ch T (sk T p) = -1 := by unfold ch; rw [if_neg q]
            rw [hc9, stW_end.1] at hw
            omega
        have esc : snF T (nuC w) 0 (sk T p + 1) (fun _ => -1) = scN T p := by unfold scN; rw [ew]
        have hsn := scN_in hpn
        rw [if_neg z] at he
        obtain ⟨τ1, hτ1⟩ : ∃ τ1, τ1 = uI (uI τ 8 5 (jI (sk T p : Int))) 8 5 ((uI τ 8 5 (jI (sk T p : Int))).1 8 5 + 1) := ⟨_, rfl⟩
        have t5 : τ1.1 8 5 = jI ((sk T p + 1 : Nat) : Int) := by
          rw [hτ1, uI_at, a5]
          simp only [jlit, jadd]
          congr 1
        have tk : ∀ k, k ≠ 5 → τ1.1 8 k = τ.1 8 k := fun k hk => by rw [hτ1, uI_ne (Or.inr hk), uI_ne (Or.inr hk)]
        have tc : ∀ c, c ≠ 8 → τ1.1 c = τ.1 c := fun c hc => by rw [hτ1, uI_n hc, uI_n hc]
        have t2 : τ1.2 = τ.2 := by rw [hτ1]; rfl
        have T1 : TK τ1 T := Tt.fr (tc 6 (by decide)) (tc 7 (by decide))
        rw [hw]
        subst hτ1
        refine k_readStepNumbers w L.length (sk T p + 1) hw10 (by omega) T1 (by omega) t5 (by rw [tk 2 (by decide)]; exact e5.1) (fun ρ g1 g2 g3 g4 g5 g6 => ?_) rfl
        rw [esc] at g5 ⊢
        have q1 : ∀ c, c ≠ 8 → c ≠ 10 → ρ.1 c = σ.1 c := fun c k1 k2 => by rw [g1 c k1 k2, tc c k1]; exact e1 c k1 k2
        have q3 : ∀ k, k ≠ 2 → k ≠ 5 → k ≠ 6 → ρ.1 8 k = σ.1 8 k := fun k k1 k2 k3 => by rw [g3 k k1 k2 k3, tk k k2]; exact e3 k k1 k2 k3
        have q2 : ρ.2 = σ.2 := g2.trans (t2.trans e2)
        by_cases zf : (scN T p).2.1 = -1
        · rw [if_neg (fun q => q zf)] at he
          obtain ⟨g51, g52, g53⟩ := g5 zf
          refine breq (scN T p).2.1 (-1) (fun _ => ?_) (fun q => absurd zf q) (hx := rfl) (hy := rfl)
          have Tr : TK ρ T := hT.fr (q1 6 (by decide) (by decide)) (q1 7 (by decide) (by decide))
          have hlen := scL_len T p L
          have hL : ∀ π : Mm, π.1 10 = ρ.1 10 → π.1 8 2 = ρ.1 8 2 → SPK π (scL T p L) := by
            intro π p10 p2
            refine ⟨by rw [p2, g4, hlen], ?_⟩
            unfold scL
            rw [ew, p10]
            have := sp_add (o := 0) (f := τ.1 10) (g := ρ.1 10) (w := w) (v := (scN T p).2.2) (L := L) (by simpa only [Nat.zero_add] using e5.2) (fun j hj => by rw [g6 j (by omega), tc 10 (by decide)]) (by rw [Nat.zero_add]; exact g52) (by rw [Nat.zero_add]; exact g53)
            simpa only [Nat.zero_add] using this
          have hSW := e7.add hpn
          have hk2 := sk_in hsn.1.2
          obtain ⟨e, hee⟩ : ∃ e, e = sk T (scN T p).1 := ⟨_, rfl⟩
          rw [← hee] at he hk2
          refine k_skipBlanks (scN T p).1 Tr hsn.1.2 g51 ?_
          rw [← hee]
          have b5 := uI_at ρ 8 5 (jI (e : Int))
          have T6 : TK (uI ρ 8 5 (jI (e : Int))) T := Tr.rd
          have y1 : ∀ c, c ≠ 8 → c ≠ 10 → (uI ρ 8 5 (jI (e : Int))).1 c = σ.1 c := fun c k1 k2 => by rw [uI_n k1]; exact q1 c k1 k2
          have y3 : ∀ k, k ≠ 2 → k ≠ 5 → k ≠ 6 → (uI ρ 8 5 (jI (e : Int))).1 8 k = σ.1 8 k := fun k k1 k2 k3 => by rw [uI_ne (Or.inr k2)]; exact q3 k k1 k2 k3
          refine brlt (e : Int) (T.n : Int) (fun z3 => ?_) (fun z3 => ?_) (hx := b5) (hy := T6.2.1)
          · rw [if_neg (fun q => q (by omega))] at he
            have ce := cz_in T e
            have bad : (ch T e ≠ 59 ∨ 16 ≤ L.length + 1) → Q (some (.int ((uI ρ 8 5 (jI (e : Int))).1 8 5))) (uI ρ 8 5 (jI (e : Int))) := by
              intro k
              rw [if_pos k] at he
              have := hq (uI ρ 8 5 (jI (e : Int))) y1 q2 y3 (fun z => by rw [he] at z; exact absurd (show (e : Int) = -1 from z) (by omega))
              rw [he, ← b5] at this
              exact this
            refine k_at e T6 (by omega) ?_ b5
            refine breq (cz T e) 59 (fun z4 => ?_) (fun z4 => ?_) (hx := rfl) (hy := rfl)
            · have z4' := (cz_ch (by omega)).1 z4
              refine brlt ((L.length + 1 : Nat) : Int) 16 (fun z5 => ?_) (fun z5 => ?_) (hx := by rw [uI_ne (Or.inr (by decide))]; exact g4) (hy := rfl)
              · rw [if_neg (fun k => by rcases k with k | k; exact k z4'; omega)] at he
                refine ih (e + 1) _ _ _ (by omega) (by omega) (by omega) (by rw [hu, hlen]; simp only [jlit, jadd]; congr 1) (fun c k1 k2 => by rw [uI_n k1]; exact y1 c k1 k2) q2 (fun k k1 k2 k3 => by rw [uI_ne (Or.inr k2)]; exact y3 k k1 k2 k3) (by rw [uI_at, b5]; simp only [jlit, jadd]; congr 1) (hL _ (by rw [uI_n (by decide), uI_n (by decide)]) (by rw [uI_ne (Or.inr (by decide)), uI_ne (Or.inr (by decide))])) hSW he
              · exact bad (Or.inr (by omega))
            · exact bad (Or.inl (fun q => z4 ((cz_ch (by omega)).2 q)))
          · rw [if_pos (by omega)] at he
            have := hq (uI ρ 8 5 (jI (e : Int))) y1 q2 y3 (fun _ => by rw [he]; exact ⟨hL _ (uI_n (by decide)) (uI_ne (Or.inr (by decide))), hSW, by show 1 ≤ (scL T p L).length; omega, by show (scL T p L).length ≤ 16; omega⟩)
            rw [he] at this
            exact this
        · rw [if_pos zf] at he
          refine breq (scN T p).2.1 (-1) (fun q => absurd q zf) (fun _ => ?_) (hx := rfl) (hy := rfl)
          have := hq ρ q1 q2 q3 (fun z => by rw [he] at z; exact absurd z zf)
          rw [he] at this
          exact this
  refine vX4_readSteps [(2, [0, 1])] 20 ?_
  exact key 16 0 _ [] σ rfl (by show 0 < 16; omega) (by omega) rfl (fun _ _ _ => rfl) rfl (fun _ _ _ _ => rfl) ha ⟨h2, fun i q hi => by simp at hi⟩ (fun q hq9 => by simp at hq9) hR
end KSc
