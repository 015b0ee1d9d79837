-- undo, log, image, back, status: the class
def IK (σ : Mm) (im : Option Im) : Prop := match im with
  | none => σ.1 64 8 = 0
  | some m => σ.1 64 8 = 1 ∧ Kg (σ.1 67) m.1 ∧ σ.1 64 7 = jI (m.2.1 : Int) ∧ (∀ p q, p < m.2.1 → m.2.1 ≤ p + 60 → q < 3 → σ.1 68 (3 * (p % 100) + q) = m.2.2 p q)
section KU
variable {l : Launch} {G : GT} {d : Nat} {σ : Mm} {Q : Po} {ru : Nat → Int} {H : Hs}
theorem k_takeBack (hC : HC σ H) (hE : H.E < 1000000) (hq0 : H.A = 0 → Q (some (.int 0)) σ)
    (hq : H.A ≠ 0 → ∀ τ : Mm, (∀ c, c ≠ 2 → c ≠ 64 → τ.1 c = σ.1 c) → τ.2 = σ.2 → (∀ k, 7 ≤ k → τ.1 64 k = σ.1 64 k) → Kr τ 2 (H.V 0) → HC τ (hUndo H) → Q (some (.int 1)) τ) : MW l G (d + 1) mX2_takeBack [.ref 64, .ref 2] σ Q := by
  obtain ⟨n, n1, n2, a1, e1, a2, a3, h1, h2⟩ := hC
  refine vX2_takeBack [] 60 ?_
  refine breq (H.A : Int) 0 (fun q => ⟨Or.inl rfl, hq0 (by omega)⟩) (fun q => ?_)
  have hq := hq (by omega)
  refine breq (H.E : Int) 0 (fun q => by omega) (fun _ => ?_)
  refine And.intro (by decide) ?_
  have er : jI (n : Int) + 41 - 1 - (jI (n : Int) + 41 - 1) / 41 * 41 = jI (((n + 40) % 41 : Nat) : Int) := by
    rw [show jI (n : Int) + 41 - 1 = jI ((n + 40 : Nat) : Int) by first | rfl | assumption | (simp only [jlit, jneg, jadd, jsub, jmul]; done) | (simp only [jlit, jneg, jadd, jsub, jmul]; congr 1 <;> omega) | (congr 1 <;> omega)]
    exact jremN _ 41 (by omega) (by omega) (by omega)
  have er : σ.1 64 5 + 41 - 1 - (σ.1 64 5 + 41 - 1) / 41 * 41 = jI (((n + 40) % 41 : Nat) : Int) := by rw [n2]; exact er
  have hm := Nat.mod_lt (n + 40) (show 0 < 41 by omega)
  have e5 : ∀ X Y Z, (uI (uI (uI σ 64 5 X) 64 0 Y) 64 6 Z).1 64 5 = X := fun X Y Z => by rw [uI_ne (Or.inr (by decide)), uI_ne (Or.inr (by decide)), uI_at]
  refine cpI (σ := (uI (uI (uI σ 64 5 (σ.1 64 5 + 41 - 1 - (σ.1 64 5 + 41 - 1) / 41 * 41)) 64 0 ((uI σ 64 5 (σ.1 64 5 + 41 - 1 - (σ.1 64 5 + 41 - 1) / 41 * 41)).1 64 0 - 1)) 64 6 ((uI (uI σ 64 5 (σ.1 64 5 + 41 - 1 - (σ.1 64 5 + 41 - 1) / 41 * 41)) 64 0 ((uI σ 64 5 (σ.1 64 5 + 41 - 1 - (σ.1 64 5 + 41 - 1) / 41 * 41)).1 64 0 - 1)).1 64 6 - 1))) (115 * ((n + 40) % 41)) 0 115 (by decide) (by decide) (by decide) (by decide) (by show _ ≤ 4715; omega) (by decide) (by decide) (by decide) (ex := by rw [e5, er]; first | rfl | assumption | (simp only [jlit, jneg, jadd, jsub, jmul]; done) | (simp only [jlit, jneg, jadd, jsub, jmul]; congr 1 <;> omega) | (congr 1 <;> omega)) (h := fun τ eτ g1 g2 g3 => ?_)
  subst eτ
  refine And.intro (Or.inr rfl) ?_
  have gk : ∀ c, c ≠ 2 → c ≠ 64 → _ = σ.1 c := fun c q1 q2 => (g2 c q1).trans (by rw [uI_n q2, uI_n q2, uI_n q2])
  refine hq _ gk g1 (fun k hk => ?_) ?_ ⟨(n + 40) % 41, by omega, ?_, ?_, ?_, by show H.A - 1 ≤ 40; omega, by show H.A - 1 ≤ H.E - 1; omega, fun j hj => ?_, fun p q hp hp2 hq2 => ?_⟩
  · rw [g2 64 (by decide), uI_ne (Or.inr (by omega)), uI_ne (Or.inr (by omega)), uI_ne (Or.inr (by omega))]
  · refine Kg.kr ((h1 0 (by omega)).fr (fun k hk => ?_))
    rw [g3, if_pos (by omega), uI_n (by decide), uI_n (by decide), uI_n (by decide), show n + 40 - 0 = n + 40 by omega, show k - 0 = k by omega]
  · rw [g2 64 (by decide), e5, er]
  · rw [g2 64 (by decide), uI_ne (Or.inr (by decide)), uI_at, uI_ne (Or.inr (by decide)), a1]
    show _ = jI ((H.A - 1 : Nat) : Int)
    first | rfl | assumption | (simp only [jlit, jneg, jadd, jsub, jmul]; done) | (simp only [jlit, jneg, jadd, jsub, jmul]; congr 1 <;> omega) | (congr 1 <;> omega)
  · rw [g2 64 (by decide), uI_at, uI_ne (Or.inr (by decide)), uI_ne (Or.inr (by decide)), e1]
    show _ = jI ((H.E - 1 : Nat) : Int)
    first | rfl | assumption | (simp only [jlit, jneg, jadd, jsub, jmul]; done) | (simp only [jlit, jneg, jadd, jsub, jmul]; congr 1 <;> omega) | (congr 1 <;> omega)
  · have hj : j < H.A - 1 := hj
    rw [gk 65 (by decide) (by decide), show ((n + 40) % 41 + 40 - j) % 41 = (n + 40 - (j + 1)) % 41 by omega]
    exact h1 (j + 1) (by omega)
  · have hp : p < H.E - 1 := hp
    have hp2 : H.E - 1 ≤ p + (H.A - 1) + 60 := hp2
    rw [gk 66 (by decide) (by decide)]
    exact h2 p q (by omega) (by omega) hq2
theorem k_undo (hC : HC σ H) (hE : H.E < 1000000) (hq0 : H.A = 0 → Q (some (.int (-1))) σ)
    (hq : H.A ≠ 0 → ∀ τ : Mm, (∀ c, c ≠ 2 → c ≠ 64 → τ.1 c = σ.1 c) → τ.2 = σ.2 → (∀ k, 7 ≤ k → τ.1 64 k = σ.1 64 k) → Kr τ 2 (H.V 0) → HC τ (hUndo H) → Q (some (.int (jI ((H.A - 1 : Nat) : Int)))) τ) : MW l G (d + 2) mX11_undo [.ref 0] σ Q := by
  refine vX11_undo [] 60 ?_
  refine k_takeBack hC hE (fun q => ?_) (fun q τ g1 g2 g3 g4 g5 => ?_)
  · exact And.intro (fun _ => hq0 q) (fun z => absurd rfl z)
  · refine And.intro (fun z => absurd z (by decide)) (fun _ => ?_)
    have e := g5
    obtain ⟨n, n1, n2, a1, _⟩ := e
    have a1 : τ.1 64 0 = jI ((H.A - 1 : Nat) : Int) := a1
    show Q (some (.int (τ.1 64 0))) τ
    rw [a1]
    exact hq q τ g1 g2 g3 g4 g5
theorem k_shown (hC : HC σ H) (hE : H.E < 1000000) (hq : Q (some (.int (jI ((min 60 H.E : Nat) : Int)))) σ) : MW l G (d + 1) mX2_shown [.ref 64] σ Q := by
  obtain ⟨n, n1, n2, a1, e1, _⟩ := hC
  have em : (if σ.1 64 6 < 60 then σ.1 64 6 else (60 : Int32)) = jI ((min 60 H.E : Nat) : Int) := by
    rw [e1, show (60 : Int32) = jI 60 from rfl]
    by_cases q : H.E < 60
    · rw [if_pos ((jlt (by omega) (by omega)).mpr (by omega)), show min 60 H.E = H.E by omega]
    · rw [if_neg (fun z => q (by have := (jlt (by omega) (by omega)).mp z; omega)), show min 60 H.E = 60 by omega]; rfl
  rw [← em] at hq
  refine vX2_shown [] 60 ?_
  exact hq
theorem k_entry {x y : Int32} (i w : Int) (hC : HC σ H) (hE : H.E < 1000000) (ri : R31 i) (rw' : R31 w) (hq : Q (some (.int (hLog H i w))) σ) (ex : x = jI i := by first | rfl | assumption | (simp only [jlit, jneg, jadd, jsub, jmul]; done) | (simp only [jlit, jneg, jadd, jsub, jmul]; congr 1 <;> omega) | (congr 1 <;> omega)) (ey : y = jI w := by first | rfl | assumption | (simp only [jlit, jneg, jadd, jsub, jmul]; done) | (simp only [jlit, jneg, jadd, jsub, jmul]; congr 1 <;> omega) | (congr 1 <;> omega)) : MW l G (d + 2) mX2_entry [.ref 64, .int x, .int y] σ Q := by
  have hC' := hC
  obtain ⟨n, n1, n2, a1, e1, a2, a3, h1, h2⟩ := hC'
  have no : ¬ (0 ≤ i ∧ i < ((min 60 H.E : Nat) : Int) ∧ 0 ≤ w ∧ w ≤ 2) → Q (some (.int (-1000000))) σ := fun q => by
    unfold hLog at hq
    rw [if_neg q] at hq
    exact hq
  refine vX2_entry [] 60 ?_
  refine brlt i 0 (fun q => no (by omega)) (fun q1 => ?_)
  refine k_shown hC hE ?_
  refine brle ((min 60 H.E : Nat) : Int) i (fun q => no (by omega)) (fun q2 => ?_)
  refine brlt w 0 (fun q => no (by omega)) (fun q3 => ?_)
  refine brlt w 3 (fun q4 => ?_) (fun q => no (by omega))
  refine And.intro (by decide) ?_
  have er : σ.1 64 6 - 1 - x - (σ.1 64 6 - 1 - x) / 100 * 100 = jI (((H.E - 1 - i.toNat) % 100 : Nat) : Int) := by
    rw [e1, ex, show jI (H.E : Int) - 1 - jI i = jI ((H.E - 1 - i.toNat : Nat) : Int) by simp only [jlit, jsub]; congr 1; omega]
    exact jremN _ 100 (by omega) (by omega) (by omega)
  have hm := Nat.mod_lt (H.E - 1 - i.toNat) (show 0 < 100 by omega)
  refine ldI 300 (3 * ((H.E - 1 - i.toNat) % 100) + w.toNat) (h2 (H.E - 1 - i.toNat) w.toNat (by omega) (by omega) (by omega)) ?_ (hi := by rw [er, ey]; simp only [jlit, jadd, jmul]; congr 1; omega)
  unfold hLog at hq
  rw [if_pos (by omega)] at hq
  exact hq
theorem k_log {x y : Int32} (i w : Int) (hC : HC σ H) (hE : H.E < 1000000) (ri : R31 i) (rw' : R31 w) (hq : Q (some (.int (hLog H i w))) σ) (ex : x = jI i := by first | rfl | assumption | (simp only [jlit, jneg, jadd, jsub, jmul]; done) | (simp only [jlit, jneg, jadd, jsub, jmul]; congr 1 <;> omega) | (congr 1 <;> omega)) (ey : y = jI w := by first | rfl | assumption | (simp only [jlit, jneg, jadd, jsub, jmul]; done) | (simp only [jlit, jneg, jadd, jsub, jmul]; congr 1 <;> omega) | (congr 1 <;> omega)) : MW l G (d + 3) mX11_log [.ref 0, .int x, .int y] σ Q := by
  have no : ¬ (0 ≤ i ∧ i < ((min 60 H.E : Nat) : Int) ∧ 0 ≤ w ∧ w ≤ 2) → Q (some (.int (-1000000))) σ := fun q => by
    unfold hLog at hq
    rw [if_neg q] at hq
    exact hq
  refine vX11_log [] 60 ?_
  refine brlt i 0 (fun q => no (by omega)) (fun q1 => ?_)
  refine k_shown hC hE ?_
  refine brle ((min 60 H.E : Nat) : Int) i (fun q => no (by omega)) (fun q2 => ?_)
  refine brlt w 0 (fun q => no (by omega)) (fun q3 => ?_)
  refine brle w 2 (fun q4 => ?_) (fun q => no (by omega))
  exact k_entry i w hC hE ri rw' hq
theorem k_status {x : Int32} (i : Int) (ri : R31 i) (hq : Q (some (.int (if 0 ≤ i ∧ i ≤ 3 then σ.1 4 i.toNat else -1))) σ) (ex : x = jI i := by first | rfl | assumption | (simp only [jlit, jneg, jadd, jsub, jmul]; done) | (simp only [jlit, jneg, jadd, jsub, jmul]; congr 1 <;> omega) | (congr 1 <;> omega)) : MW l G d mX11_status [.ref 0, .int x] σ Q := by
  have no : ¬ (0 ≤ i ∧ i ≤ 3) → Q (some (.int (-1))) σ := fun q => by
    rw [if_neg q] at hq
    exact hq
  refine vX11_status [] 60 ?_
  refine brlt i 0 (fun q => no (by omega)) (fun q1 => ?_)
  refine brlt i 4 (fun q2 => ?_) (fun q => no (by omega))
  rw [if_pos (by omega)] at hq
  refine ldI 4 i.toNat rfl ?_ (hi := by rw [ex]; congr 1; omega)
  exact hq
end KU
