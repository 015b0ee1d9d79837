-- what is kept, the log: the class
def Kg (g : Nat → Int32) (W : Wk) : Prop := Kr ((fun _ => g), (fun _ _ => 0)) 0 W
theorem Kr.kg {σ : Mm} {a : Nat} {W : Wk} (h : Kr σ a W) : Kg (σ.1 a) W := h
theorem Kg.kr {σ : Mm} {a : Nat} {W : Wk} (h : Kg (σ.1 a) W) : Kr σ a W := h
theorem Kg.fr {g g' : Nat → Int32} {W : Wk} (h : Kg g W) (e : ∀ k, k < 115 → g' k = g k) : Kg g' W := by
  obtain ⟨h1, h2, h3, h4, h5⟩ := h
  have e' : ∀ k, k < 115 → (((fun _ => g'), (fun _ _ => 0)) : Mm).1 0 k = (((fun _ => g), (fun _ _ => 0)) : Mm).1 0 k := e
  have ed : deS ((fun _ => g'), (fun _ _ => 0)) 0 = deS ((fun _ => g), (fun _ _ => 0)) 0 := deS_eq (fun j _ _ => e' j (by omega))
  refine ⟨fun k hk => by rw [e' k (by omega)]; exact h1 k hk, (amS_eq (fun j _ _ => e' j (by omega))).trans h2, (raS_eq (fun j _ _ => by rw [e' j (by omega)])).trans h3, ed.trans h4, fun j q1 q2 => ?_, fun j q1 q2 => ?_, fun t k => ?_⟩
  · rw [e' j (by omega)]; exact h5.1 j q1 q2
  · rw [e' j (by omega)]; exact h5.2.1 j q1 q2
  · rw [ed]; exact h5.2.2 t k
/-- rows and entries of the class, but the row where the next one goes -/
def HC (σ : Mm) (H : Hs) : Prop := ∃ n : Nat, n < 41 ∧ σ.1 64 5 = jI (n : Int) ∧ σ.1 64 0 = jI (H.A : Int) ∧ σ.1 64 6 = jI (H.E : Int) ∧ H.A ≤ 40 ∧ H.A ≤ H.E ∧ (∀ j, j < H.A → Kg (fun k => σ.1 65 (115 * ((n + 40 - j) % 41) + k)) (H.V j)) ∧ (∀ p q, p < H.E → H.E ≤ p + H.A + 60 → q < 3 → σ.1 66 (3 * (p % 100) + q) = H.L p q)
theorem HC.fr {σ τ : Mm} {H : Hs} (h : HC σ H) (e1 : τ.1 64 = σ.1 64) (e2 : τ.1 65 = σ.1 65) (e3 : τ.1 66 = σ.1 66) : HC τ H := by
  unfold HC at h ⊢
  rw [e1, e2, e3]
  exact h
/-- the row where the next one goes holds W -/
def HS (σ : Mm) (W : Wk) : Prop := ∃ n : Nat, n < 41 ∧ σ.1 64 5 = jI (n : Int) ∧ Kg (fun k => σ.1 65 (115 * n + k)) W
theorem uR_n {σ : Mm} {a b : Nat} {r : Nat → Int32} (h : b ≠ a) : (uR σ a r).1 b = σ.1 b := by simp [uR, h]
theorem uR_s {σ : Mm} {a : Nat} {r : Nat → Int32} : (uR σ a r).1 a = r := by simp [uR]
theorem jNC (n : Nat) (h : n < 2147483648) : (jI (n : Int)).toNatClampNeg = n := by rw [jix (by omega)]; omega
theorem jnn (n : Nat) (h : n < 2147483648) : ¬ jI (n : Int) < 0 := by
  rw [show (0 : Int32) = jI 0 from rfl, jlt (by omega) (by omega)]
  omega
/-- a copy's conditions -/
theorem cpI {a0 a : Nat} {x y z : Int32} (p q m : Nat) {σ : Mm} (h0 : (sh a0).1 = 1) (h1 : (sh a).1 = 1) (n0 : a0 < NN) (n1 : a < NN) (l0 : p + m ≤ lenI a0) (l1 : q + m ≤ lenI a) (b0 : lenI a0 < 100000) (b1 : lenI a < 100000) {P : Prop} (ex : x = jI p := by first | rfl | assumption | (simp only [jlit, jneg, jadd, jsub, jmul]; done) | (simp only [jlit, jneg, jadd, jsub, jmul]; congr 1 <;> omega) | (congr 1 <;> omega)) (ey : y = jI q := by first | rfl | assumption | (simp only [jlit, jneg, jadd, jsub, jmul]; done) | (simp only [jlit, jneg, jadd, jsub, jmul]; congr 1 <;> omega) | (congr 1 <;> omega)) (ez : z = jI m := by first | rfl | assumption | (simp only [jlit, jneg, jadd, jsub, jmul]; done) | (simp only [jlit, jneg, jadd, jsub, jmul]; congr 1 <;> omega) | (congr 1 <;> omega)) (h : ∀ τ : Mm, τ = uR σ a (va_cpy (σ.1 a0) (σ.1 a) x.toNatClampNeg y.toNatClampNeg z.toNatClampNeg) → τ.2 = σ.2 → (∀ c, c ≠ a → τ.1 c = σ.1 c) → (∀ j, τ.1 a j = if q ≤ j ∧ j < q + m then σ.1 a0 (p + (j - q)) else σ.1 a j) → P) : (¬ x < 0 ∧ ¬ y < 0 ∧ ¬ z < 0 ∧ (sh a0).1 = 1 ∧ (sh a).1 = 1 ∧ a0 < NN ∧ a < NN ∧ x.toNatClampNeg + z.toNatClampNeg ≤ lenI a0 ∧ y.toNatClampNeg + z.toNatClampNeg ≤ lenI a) ∧ P := by
  subst ex; subst ey; subst ez
  have e1 := jNC p (by omega)
  have e2 := jNC q (by omega)
  have e3 := jNC m (by omega)
  refine ⟨⟨jnn p (by omega), jnn q (by omega), jnn m (by omega), h0, h1, n0, n1, by rw [e1, e3]; exact l0, by rw [e2, e3]; exact l1⟩, h _ rfl rfl (fun c hc => uR_n hc) (fun j => ?_)⟩
  rw [uR_s, e1, e2, e3]
  rfl
section KHi
variable {l : Launch} {G : GT} {d : Nat} {σ : Mm} {Q : Po} {H : Hs} {W : Wk}
theorem k_save (hC : HC σ H) (hq : ∀ τ : Mm, (∀ c, c ≠ 65 → τ.1 c = σ.1 c) → τ.2 = σ.2 → HC τ H → (∀ W, Kr σ 2 W → HS τ W) → Q none τ) : MW l G (d + 1) mX2_save [.ref 64, .ref 2] σ Q := by
  obtain ⟨n, n1, n2, a1, e1, a2, a3, h1, h2⟩ := hC
  refine vX2_save [] 40 ?_
  refine cpI (σ := σ) 0 (115 * n) 115 (by decide) (by decide) (by decide) (by decide) (by decide) (by show _ ≤ 4715; omega) (by decide) (by decide) (ey := by rw [n2]; first | rfl | assumption | (simp only [jlit, jneg, jadd, jsub, jmul]; done) | (simp only [jlit, jneg, jadd, jsub, jmul]; congr 1 <;> omega) | (congr 1 <;> omega)) (h := fun τ eτ g1 g2 g3 => ?_)
  subst eτ
  refine hq _ g2 g1 ⟨n, n1, ?_, ?_, ?_, a2, a3, fun j hj => ?_, ?_⟩ (fun W hK => ⟨n, n1, ?_, ?_⟩)
  · rw [g2 64 (by decide)]; exact n2
  · rw [g2 64 (by decide)]; exact a1
  · rw [g2 64 (by decide)]; exact e1
  · refine (h1 j hj).fr (fun k hk => ?_)
    rw [g3, if_neg (by omega)]
  · rw [g2 66 (by decide)]; exact h2
  · rw [g2 64 (by decide)]; exact n2
  · refine hK.kg.fr (fun k hk => ?_)
    rw [g3, if_pos (by omega), show 0 + (115 * n + k - 115 * n) = k by omega]
theorem k_enter {x y z : Int32} (hC : HC σ H) (hS : HS σ H.W) (hE : H.E < 1000000) (W' : Wk) (hq : ∀ τ : Mm, (∀ c, c ≠ 64 → c ≠ 66 → τ.1 c = σ.1 c) → τ.2 = σ.2 → (∀ k, 7 ≤ k → τ.1 64 k = σ.1 64 k) → HC τ (W', H.E + 1, Lp H.L H.E x y z, min 40 (H.A + 1), Vp H.W H.V) → Q none τ) : MW l G (d + 1) mX2_enter [.ref 64, .int x, .int y, .int z] σ Q := by
  obtain ⟨n, n1, n2, a1, e1, a2, a3, h1, h2⟩ := hC
  obtain ⟨n', n1', n2', hw⟩ := hS
  obtain rfl : n' = n := by
    rw [n2] at n2'
    have := (jeq (by omega) (by omega)).mp n2'
    omega
  have er : jI (n' : Int) + 1 - (jI (n' : Int) + 1) / 41 * 41 = jI (((n' + 1) % 41 : Nat) : Int) := by
    rw [show jI (n' : Int) + 1 = jI ((n' + 1 : Nat) : Int) by first | rfl | assumption | (simp only [jlit, jneg, jadd, jsub, jmul]; done) | (simp only [jlit, jneg, jadd, jsub, jmul]; congr 1 <;> omega) | (congr 1 <;> omega)]
    exact jremN _ 41 (by omega) (by omega) (by omega)
  have em : (if jI (H.A : Int) + 1 < 40 then jI (H.A : Int) + 1 else (40 : Int32)) = jI ((min 40 (H.A + 1) : Nat) : Int) := by
    rw [show jI (H.A : Int) + 1 = jI ((H.A + 1 : Nat) : Int) by first | rfl | assumption | (simp only [jlit, jneg, jadd, jsub, jmul]; done) | (simp only [jlit, jneg, jadd, jsub, jmul]; congr 1 <;> omega) | (congr 1 <;> omega), show (40 : Int32) = jI 40 from rfl]
    by_cases q : H.A + 1 < 40
    · rw [if_pos ((jlt (by omega) (by omega)).mpr (by omega)), show min 40 (H.A + 1) = H.A + 1 by omega]
    · rw [if_neg (fun z => q (by have := (jlt (by omega) (by omega)).mp z; omega)), show min 40 (H.A + 1) = 40 by omega]; rfl
  have er6 : jI (H.E : Int) - jI (H.E : Int) / 100 * 100 = jI ((H.E % 100 : Nat) : Int) := jremN _ 100 (by omega) (by omega) (by omega)
  have e6 : ∀ X Y, (uI (uI σ 64 5 X) 64 0 Y).1 64 6 = jI (H.E : Int) := fun X Y => by rw [uI_ne (Or.inr (by decide)), uI_ne (Or.inr (by decide))]; exact e1
  have e66 : ∀ X Y, ((uI (uI σ 64 5 X) 64 0 Y).1 64 6 - (uI (uI σ 64 5 X) 64 0 Y).1 64 6 / 100 * 100) * 3 = jI ((3 * (H.E % 100) : Nat) : Int) := fun X Y => by
    rw [e6, er6]
    first | rfl | assumption | (simp only [jlit, jneg, jadd, jsub, jmul]; done) | (simp only [jlit, jneg, jadd, jsub, jmul]; congr 1 <;> omega) | (congr 1 <;> omega)
  have hm := Nat.mod_lt H.E (show 0 < 100 by omega)
  refine vX2_enter [] 60 ?_
  refine And.intro (by decide) ?_
  refine And.intro (by decide) ?_
  refine stI 300 (3 * (H.E % 100)) ?_ (hi := e66 _ _)
  refine stI 300 (3 * (H.E % 100) + 1) ?_ (hi := by rw [e66]; first | rfl | assumption | (simp only [jlit, jneg, jadd, jsub, jmul]; done) | (simp only [jlit, jneg, jadd, jsub, jmul]; congr 1 <;> omega) | (congr 1 <;> omega))
  refine stI 300 (3 * (H.E % 100) + 2) ?_ (hi := by rw [e66]; first | rfl | assumption | (simp only [jlit, jneg, jadd, jsub, jmul]; done) | (simp only [jlit, jneg, jadd, jsub, jmul]; congr 1 <;> omega) | (congr 1 <;> omega))
  refine hq _ (fun c q1 q2 => by rw [uI_n q1, uI_n q2, uI_n q2, uI_n q2, uI_n q1, uI_n q1]) rfl (fun k hk => by rw [uI_ne (Or.inr (by omega)), uI_n (by decide), uI_n (by decide), uI_n (by decide), uI_ne (Or.inr (by omega)), uI_ne (Or.inr (by omega))]) ⟨(n' + 1) % 41, by omega, ?_, ?_, ?_, by show min 40 (H.A + 1) ≤ 40; omega, by show min 40 (H.A + 1) ≤ H.E + 1; omega, fun j hj => ?_, fun p q hp hp2 hq2 => ?_⟩
  · rw [uI_ne (Or.inr (by decide)), uI_n (by decide), uI_n (by decide), uI_n (by decide), uI_ne (Or.inr (by decide)), uI_at, n2]
    exact er
  · rw [uI_ne (Or.inr (by decide)), uI_n (by decide), uI_n (by decide), uI_n (by decide), uI_at, uI_ne (Or.inr (by decide)), a1]
    exact em
  · rw [uI_at, uI_n (by decide), uI_n (by decide), uI_n (by decide), e6]
    show _ = jI ((H.E + 1 : Nat) : Int)
    first | rfl | assumption | (simp only [jlit, jneg, jadd, jsub, jmul]; done) | (simp only [jlit, jneg, jadd, jsub, jmul]; congr 1 <;> omega) | (congr 1 <;> omega)
  · rw [uI_n (by decide), uI_n (by decide), uI_n (by decide), uI_n (by decide), uI_n (by decide), uI_n (by decide)]
    have hj : j < min 40 (H.A + 1) := hj
    cases j with
    | zero => rw [show ((n' + 1) % 41 + 40 - 0) % 41 = n' by omega]; exact hw
    | succ j => rw [show ((n' + 1) % 41 + 40 - (j + 1)) % 41 = (n' + 40 - j) % 41 by omega]; exact h1 j (by omega)
  · rw [uI_n (by decide)]
    have hp : p < H.E + 1 := hp
    have hp2 : H.E + 1 ≤ p + min 40 (H.A + 1) + 60 := hp2
    show _ = Lp H.L H.E x y z p q
    unfold Lp
    by_cases q0 : p = H.E
    · subst q0
      rw [if_pos rfl]
      by_cases q2 : q = 2
      · subst q2
        rw [uI_at, if_neg (by omega), if_neg (by omega)]
      · rw [uI_ne (Or.inr (by omega))]
        by_cases q1 : q = 1
        · subst q1
          rw [uI_at, if_neg (by omega), if_pos rfl]
        · obtain rfl : q = 0 := by omega
          rw [uI_ne (Or.inr (by omega)), show 3 * (H.E % 100) + 0 = 3 * (H.E % 100) by omega, uI_at, if_pos rfl]
    · rw [if_neg q0, uI_ne (Or.inr (by omega)), uI_ne (Or.inr (by omega)), uI_ne (Or.inr (by omega)), uI_n (by decide), uI_n (by decide)]
      exact h2 p q (by omega) (by omega) hq2
end KHi
