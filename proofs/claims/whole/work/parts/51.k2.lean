-- the library's fills; a table's deeds
/-- only the place n of the rows S is another one -/
def Fn (S : List Nat) (n : Nat) (σ τ : Mm) : Prop := (∀ a j, a ∉ S ∨ j ≠ n → τ.1 a j = σ.1 a j) ∧ τ.2 = σ.2
theorem Fn.rf {S : List Nat} {n : Nat} {σ : Mm} : Fn S n σ σ := ⟨fun _ _ _ => rfl, rfl⟩
theorem Fn.uI {S : List Nat} {n a : Nat} {σ τ : Mm} {v : Int32} (h : Fn S n σ τ) (ha : a ∈ S) : Fn S n σ (uI τ a n v) := by
  refine ⟨fun b j hb => ?_, h.2⟩
  rw [← h.1 b j hb]
  by_cases e : b = a
  · subst e
    rw [uI_s, upd_n (by rcases hb with q | q; exact absurd ha q; exact q)]
  · rw [uI_n e]
theorem uI_at (σ : Mm) (a k : Nat) (v : Int32) : (uI σ a k v).1 a k = v := by rw [uI_s, upd_s]
theorem uI_ne {σ : Mm} {a k b j : Nat} {v : Int32} (h : b ≠ a ∨ j ≠ k) : (uI σ a k v).1 b j = σ.1 b j := by
  by_cases e : b = a
  · subst e
    rw [uI_s, upd_n (by rcases h with q | q; exact absurd rfl q; exact q)]
  · rw [uI_n e]
section KF
variable {l : Launch} {G : GT} {d : Nat} {σ : Mm} {Q : Po}
theorem c_rangeCheck {x y z : Int32} (n a b : Int) (h : 0 ≤ a ∧ a ≤ b ∧ b ≤ n) (hn : n < 2147483648) (hq : Q none σ) (ex : x = jI n := by first | rfl | assumption | (simp only [jlit, jneg, jadd, jsub, jmul]; done) | (simp only [jlit, jneg, jadd, jsub, jmul]; congr 1 <;> omega) | (congr 1 <;> omega)) (ey : y = jI a := by first | rfl | assumption | (simp only [jlit, jneg, jadd, jsub, jmul]; done) | (simp only [jlit, jneg, jadd, jsub, jmul]; congr 1 <;> omega) | (congr 1 <;> omega)) (ez : z = jI b := by first | rfl | assumption | (simp only [jlit, jneg, jadd, jsub, jmul]; done) | (simp only [jlit, jneg, jadd, jsub, jmul]; congr 1 <;> omega) | (congr 1 <;> omega)) : MW l G d mJ7_rangeCheck_23922 [.int x, .int y, .int z] σ Q := by
  refine vJ7_rangeCheck_23922 [] 40 ?_
  refine brle a b (fun _ => ?_) (fun q => by omega) ey ez
  refine brle 0 a (fun _ => ?_) (fun q => by omega) rfl ey
  refine brle b n (fun _ => ?_) (fun q => by omega) ez ex
  exact hq
theorem c_fill4 {a : Nat} {x y v : Int32} (p q : Nat) (ha : (sh a).1 = 1) (hN : a < NN) (h1 : p ≤ q) (h2 : q ≤ lenI a) (hl : lenI a < 100000) (hq : ∀ τ : Mm, τ.2 = σ.2 → (∀ b, b ≠ a → τ.1 b = σ.1 b) → (∀ j, τ.1 a j = if p ≤ j ∧ j < q then v else σ.1 a j) → Q none τ) (ex : x = jI p := by first | rfl | assumption | (simp only [jlit, jneg, jadd, jsub, jmul]; done) | (simp only [jlit, jneg, jadd, jsub, jmul]; congr 1 <;> omega) | (congr 1 <;> omega)) (ey : y = jI q := by first | rfl | assumption | (simp only [jlit, jneg, jadd, jsub, jmul]; done) | (simp only [jlit, jneg, jadd, jsub, jmul]; congr 1 <;> omega) | (congr 1 <;> omega)) : MW l G (d + 1) mJ7_fill_fda19 [.ref a, .int x, .int y, .int v] σ Q := by
  have hla : lenI a = (sh a).2.1 := if_pos ⟨ha, hN⟩
  have key : ∀ (m i : Nat) (τ : Mm) (u : Int32), i + m = q → p ≤ i → u = jI i → τ.2 = σ.2 → (∀ b, b ≠ a → τ.1 b = σ.1 b) → (∀ j, τ.1 a j = if p ≤ j ∧ j < i then v else σ.1 a j) → Wp l G (d + 1) mJ7_fill_fda19 10 [(0, .ref a), (2, .int y), (3, .int v), (4, .int u)] [] τ Q := by
    intro m
    induction m with
    | zero =>
      intro i τ u hm hp hu e1 e2 e3
      refine wJ7_fill_fda19 [] 40 ?_
      refine brle q i (fun _ => ?_) (fun z => by omega) ey hu
      obtain rfl : i = q := by omega
      exact hq τ e1 e2 e3
    | succ m ih =>
      intro i τ u hm hp hu e1 e2 e3
      subst hu
      refine wJ7_fill_fda19 [(10, [0, 2, 3, 4])] 40 ?_
      refine brle q i (fun z => by omega) (fun _ => ?_) ey
      refine stI (lenI a) i ?_
      refine ih (i + 1) _ _ (by omega) (by omega) (by first | rfl | assumption | (simp only [jlit, jneg, jadd, jsub, jmul]; done) | (simp only [jlit, jneg, jadd, jsub, jmul]; congr 1 <;> omega) | (congr 1 <;> omega)) e1 (fun b hb => by rw [uI_n hb]; exact e2 b hb) (fun j => ?_)
      rw [uI_s]
      by_cases e : j = i
      · subst e
        rw [upd_s, if_pos (by omega)]
      · rw [upd_n e, e3 j]
        by_cases z : p ≤ j ∧ j < i
        · rw [if_pos z, if_pos (by omega)]
        · rw [if_neg z, if_neg (by omega)]
  refine vJ7_fill_fda19 [(10, [0, 2, 3, 4])] 40 ?_
  show (if (sh a).1 < 5 ∧ a < NN then _ else False)
  rw [if_pos ⟨by omega, hN⟩]
  refine c_rangeCheck (lenI a) p q (by omega) (by omega) ?_ (by rw [hla]; exact (jn _).symm) ex ey
  exact key (q - p) p σ _ (by omega) (Nat.le_refl _) ex rfl (fun _ _ => rfl) (fun j => by rw [if_neg (by omega)])
theorem c_fill2 {a : Nat} {v : Int32} (ha : (sh a).1 = 1) (hN : a < NN) (hl : lenI a < 100000) (hq : ∀ τ : Mm, τ.2 = σ.2 → (∀ b, b ≠ a → τ.1 b = σ.1 b) → (∀ j, τ.1 a j = if j < lenI a then v else σ.1 a j) → Q none τ) : MW l G d mJ7_fill_53178 [.ref a, .int v] σ Q := by
  have hla : lenI a = (sh a).2.1 := if_pos ⟨ha, hN⟩
  have key : ∀ (m i : Nat) (τ : Mm) (u y : Int32), i + m = lenI a → u = jI i → y = jI (lenI a) → τ.2 = σ.2 → (∀ b, b ≠ a → τ.1 b = σ.1 b) → (∀ j, τ.1 a j = if j < i then v else σ.1 a j) → Wp l G d mJ7_fill_53178 5 [(0, .ref a), (1, .int v), (2, .int u), (3, .int y)] [] τ Q := by
    intro m
    induction m with
    | zero =>
      intro i τ u y hm hu ey e1 e2 e3
      refine wJ7_fill_53178 [] 40 ?_
      refine brle (lenI a) i (fun _ => ?_) (fun z => by omega) ey hu
      obtain rfl : i = lenI a := by omega
      exact hq τ e1 e2 e3
    | succ m ih =>
      intro i τ u y hm hu ey e1 e2 e3
      subst hu
      refine wJ7_fill_53178 [(5, [0, 1, 2, 3])] 40 ?_
      refine brle (lenI a) i (fun z => by omega) (fun _ => ?_) ey
      refine stI (lenI a) i ?_
      refine ih (i + 1) _ _ _ (by omega) (by first | rfl | assumption | (simp only [jlit, jneg, jadd, jsub, jmul]; done) | (simp only [jlit, jneg, jadd, jsub, jmul]; congr 1 <;> omega) | (congr 1 <;> omega)) ey e1 (fun b hb => by rw [uI_n hb]; exact e2 b hb) (fun j => ?_)
      rw [uI_s]
      by_cases e : j = i
      · subst e
        rw [upd_s, if_pos (by omega)]
      · rw [upd_n e, e3 j]
        by_cases z : j < i
        · rw [if_pos z, if_pos (by omega)]
        · rw [if_neg z, if_neg (by omega)]
  refine vJ7_fill_53178 [(5, [0, 1, 2, 3])] 40 ?_
  show (if (sh a).1 < 5 ∧ a < NN then _ else False)
  rw [if_pos ⟨by omega, hN⟩]
  exact key (lenI a) 0 σ _ _ (by omega) rfl (by rw [hla]; exact (jn _).symm) rfl (fun _ _ => rfl) (fun j => by rw [if_neg (by omega)])
end KF
/-- the tables' addresses -/
def Tb (o : Nat) : Prop := o = 19 ∨ o = 31 ∨ o = 43 ∨ o = 72 ∨ o = 84
theorem Tb_len {o : Nat} (h : Tb o) : lenI (o + 1) = 91 ∧ lenI (o + 2) = 91 ∧ lenI (o + 3) = 91 ∧ (∀ k, k < 3 → lenI (o + 5 + k) = 91 ∧ lenI (o + 9 + k) = 91 ∧ refA (o + 4) k = o + 5 + k ∧ refA (o + 8) k = o + 9 + k) := by
  rcases h with rfl | rfl | rfl | rfl | rfl <;> decide
section KT
variable {l : Launch} {G : GT} {d : Nat} {σ : Mm} {Q : Po} {ru am : Nat → Int} {ra : Nat → Nat → Int} {o : Nat}
theorem k_costOf {x y : Int32} (n : Nat) (dd : Int) (v : Int32) (ho : Tb o) (hR : RC σ ru) (hn : n < 91) (hd : 0 ≤ dd ∧ dd ≤ 2) (hv : (if dd = 0 then σ.1 (o + 2) n else if dd = 1 then σ.1 (o + 5 + (ru 10).toNat) n else σ.1 (o + 9 + (ru 10).toNat) n) = v) (hq : Q (some (.int v)) σ) (ex : x = jI n := by first | rfl | assumption | (simp only [jlit, jneg, jadd, jsub, jmul]; done) | (simp only [jlit, jneg, jadd, jsub, jmul]; congr 1 <;> omega) | (congr 1 <;> omega)) (ey : y = jI dd := by first | rfl | assumption | (simp only [jlit, jneg, jadd, jsub, jmul]; done) | (simp only [jlit, jneg, jadd, jsub, jmul]; congr 1 <;> omega) | (congr 1 <;> omega)) : MW l G d mX8_costOf [.ref 15, .ref o, .int x, .int y] σ Q := by
  have hr := hR.1
  unfold RB at hr
  obtain ⟨l1, l2, l3, l4⟩ := Tb_len ho
  obtain ⟨m1, m2, m3, m4⟩ := l4 (ru 10).toNat (by omega)
  have hz : ((ru 10).toNat : Int) = ru 10 := Int.toNat_of_nonneg (by omega)
  have h10 := hR.2 10 (by omega)
  rw [← hz] at h10
  rcases ho with rfl | rfl | rfl | rfl | rfl <;>
  · refine vX8_costOf [] 60 ?_
    refine breq dd 0 (fun h1 => ?_) (fun h1 => ?_) ey
    · rw [if_pos h1] at hv
      exact ldI 91 n hv hq (hi := ex)
    · rw [if_neg h1] at hv
      refine breq dd 1 (fun h2 => ?_) (fun h2 => ?_) ey
      · rw [if_pos h2] at hv
        refine ldI 14 10 h10 ?_
        refine ldN 3 (ru 10).toNat m3 ?_
        exact ldI _ n hv hq (by rw [m1]; exact hn) ex (by rw [m1]; decide)
      · rw [if_neg h2] at hv
        refine ldI 14 10 h10 ?_
        refine ldN 3 (ru 10).toNat m4 ?_
        exact ldI _ n hv hq (by rw [m2]; exact hn) ex (by rw [m2]; decide)
/-- leastDeed: by what the table's parts hold -/
theorem k_leastDeed {x y : Int32} (n : Nat) (al c0 c1 c2 : Int) (ho : Tb o) (hR : RC σ ru) (hn : n < 91) (hal : 0 ≤ al ∧ al ≤ 2) (h0 : σ.1 (o + 2) n = jI c0) (h1 : 1 ≤ al → σ.1 (o + 5 + (ru 10).toNat) n = jI c1) (h2 : 2 ≤ al → σ.1 (o + 9 + (ru 10).toNat) n = jI c2) (r0 : R31 c0) (r1 : R31 c1) (r2 : R31 c2) (hq : Q (some (.int (jI (if 1 ≤ al ∧ c1 < c0 then (if 2 ≤ al ∧ c2 < c1 then 2 else 1) else (if 2 ≤ al ∧ c2 < c0 then 2 else 0))))) σ) (ex : x = jI n := by first | rfl | assumption | (simp only [jlit, jneg, jadd, jsub, jmul]; done) | (simp only [jlit, jneg, jadd, jsub, jmul]; congr 1 <;> omega) | (congr 1 <;> omega)) (ey : y = jI al := by first | rfl | assumption | (simp only [jlit, jneg, jadd, jsub, jmul]; done) | (simp only [jlit, jneg, jadd, jsub, jmul]; congr 1 <;> omega) | (congr 1 <;> omega)) : MW l G d mX8_leastDeed [.ref 15, .ref o, .int x, .int y] σ Q := by
  have hr := hR.1
  unfold RB at hr
  obtain ⟨l1, l2, l3, l4⟩ := Tb_len ho
  obtain ⟨m1, m2, m3, m4⟩ := l4 (ru 10).toNat (by omega)
  have hz : ((ru 10).toNat : Int) = ru 10 := Int.toNat_of_nonneg (by omega)
  have h10 := hR.2 10 (by omega)
  rw [← hz] at h10
  have b1 : n < lenI (o + 5 + (ru 10).toNat) := by rw [m1]; exact hn
  have b2 : lenI (o + 5 + (ru 10).toNat) < 2147483648 := by rw [m1]; decide
  have b3 : n < lenI (o + 9 + (ru 10).toNat) := by rw [m2]; exact hn
  have b4 : lenI (o + 9 + (ru 10).toNat) < 2147483648 := by rw [m2]; decide
  have t53 : ∀ (f c : Int), R31 c → Q (some (.int (jI (if 2 ≤ al ∧ c2 < c then 2 else f)))) σ → ∀ u v w, u = jI f → v = jI c → w = jI ((ru 10).toNat : Int) → Wp l G d mX8_leastDeed 53 [(0, .ref 15), (1, .ref o), (2, .int x), (3, .int y), (4, .int w), (5, .int u), (6, .int v)] [] σ Q := by
    intro f c rc hq u v w hu hv hw
    rcases ho with rfl | rfl | rfl | rfl | rfl <;>
    · refine wX8_leastDeed [] 60 ?_
      refine brlt al 2 (fun z => ?_) (fun z => ?_) ey
      · rw [if_neg (by omega)] at hq
        rw [← hu] at hq
        exact hq
      · refine ldN 3 (ru 10).toNat m4 ?_ (hi := hw)
        refine ldI _ n (h2 z) ?_ b3 ex b4
        refine brle c c2 (fun z2 => ?_) (fun z2 => ?_) hv
        · rw [if_neg (by omega), ← hu] at hq
          exact hq
        · rw [if_pos (by omega)] at hq
          exact hq
  rcases ho with rfl | rfl | rfl | rfl | rfl <;>
  · refine vX8_leastDeed [(53, [0, 1, 2, 3, 4, 5, 6])] 60 ?_
    refine ldI 14 10 h10 ?_
    refine ldI 91 n h0 ?_ (hi := ex)
    refine brlt al 1 (fun z => ?_) (fun z => ?_) ey
    · rw [if_neg (by omega)] at hq
      exact t53 0 c0 r0 hq _ _ _ rfl rfl rfl
    · refine ldN 3 (ru 10).toNat m3 ?_
      refine ldI _ n (h1 z) ?_ b1 ex b2
      refine brle c0 c1 (fun z2 => ?_) (fun z2 => ?_)
      · rw [if_neg (by omega)] at hq
        exact t53 0 c0 r0 hq _ _ _ rfl rfl rfl
      · rw [if_pos (by omega)] at hq
        refine ldN 3 (ru 10).toNat m3 ?_
        refine ldI _ n (h1 z) ?_ b1 ex b2
        exact t53 1 c1 r1 hq _ _ _ rfl rfl rfl
end KT
