-- signs of the tape
theorem and255 (x : Int32) : 0 ≤ (x &&& 255).toInt ∧ (x &&& 255).toInt ≤ 255 := by
  have h : (x &&& 255).toBitVec.toNat ≤ 255 := by
    rw [Int32.toBitVec_and, BitVec.toNat_and]
    exact Nat.and_le_right
  have e : (x &&& 255).toInt = ((x &&& 255).toBitVec.toNat : Int) := by
    show (x &&& 255).toBitVec.toInt = _
    rw [BitVec.toInt_eq_toNat_of_lt]
    omega
  rw [e]
  omega
def bt (T : Tp) (j : Nat) : Int := (T.b j &&& 255).toInt
theorem bt_in (T : Tp) (j : Nat) : 0 ≤ bt T j ∧ bt T j ≤ 255 := and255 _
theorem bt_e (T : Tp) (j : Nat) : T.b j &&& 255 = jI (bt T j) := (jI_of _).symm
/-- the sign at a place, -1 behind the last -/
def ch (T : Tp) (j : Nat) : Int := if j < T.n then bt T j else -1
theorem ch_in (T : Tp) (j : Nat) : -1 ≤ ch T j ∧ ch T j ≤ 255 := by
  have := bt_in T j
  unfold ch
  split <;> omega
def skF (T : Tp) : Nat → Nat → Nat
  | 0, j => j
  | m + 1, j => if ch T j = 32 then skF T m (j + 1) else j
/-- behind blanks -/
def sk (T : Tp) (j : Nat) : Nat := skF T (T.n - j) j
theorem skF_in (T : Tp) : ∀ m j, j ≤ skF T m j ∧ skF T m j ≤ j + m
  | 0, j => ⟨Nat.le_refl _, Nat.le_refl _⟩
  | m + 1, j => by
    have := skF_in T m (j + 1)
    unfold skF
    split <;> omega
theorem sk_in {T : Tp} {j : Nat} (h : j ≤ T.n) : j ≤ sk T j ∧ sk T j ≤ T.n := by
  have := skF_in T (T.n - j) j
  unfold sk
  omega
theorem sk_y {T : Tp} {j : Nat} (h : ch T j = 32) : sk T j = sk T (j + 1) := by
  have hj : j < T.n := by
    unfold ch at h
    split at h
    · assumption
    · omega
  unfold sk
  rw [show T.n - j = (T.n - (j + 1)) + 1 by omega]
  show (if ch T j = 32 then skF T (T.n - (j + 1)) (j + 1) else j) = _
  rw [if_pos h]
theorem sk_n {T : Tp} {j : Nat} (h : ch T j ≠ 32) : sk T j = j := by
  unfold sk
  cases hm : T.n - j with
  | zero => rfl
  | succ m =>
    show (if ch T j = 32 then skF T m (j + 1) else j) = j
    rw [if_neg h]
abbrev dg (T : Tp) (j : Nat) : Prop := 48 ≤ ch T j ∧ ch T j ≤ 57
theorem dg_lt {T : Tp} {j : Nat} (h : dg T j) : j < T.n := by
  unfold dg ch at h
  by_cases q : j < T.n
  · exact q
  · rw [if_neg q] at h
    omega
theorem ldB {f : Nat → Int32} {i : Int32} {P : Int32 → Prop} (n z : Nat) {v : Int32} (hv : f z = v) (h : P v) (hz : z < n := by omega) (hi : i = jI z := by first | rfl | assumption | (simp only [jlit, jneg, jadd, jsub, jmul]; done) | (simp only [jlit, jneg, jadd, jsub, jmul]; congr 1 <;> omega) | (congr 1 <;> omega)) (hn : n < 2147483648 := by omega) : vp_in i n ∧ ∀ x, f i.toNatClampNeg = x → P x := ldI n z hv h hz hi hn
section MP1
variable {l : Launch} {G : GT} {d : Nat} {σ : Mm} {Q : Po} {T : Tp}
theorem c_here (p : Nat) (hT : TM σ T) (hp : p ≤ T.n) (ha : σ.1 98 3 = jI (p : Int)) (hq : Q (some (.int (jI (ch T p)))) σ) : MW l G d mX12_here [.ref 98] σ Q := by
  have h1 := hT.1
  refine vX12_here [] 40 ?_
  refine brle (T.n : Int) (p : Int) (fun q => ?_) (fun q => ?_) (hx := hT.2.1) (hy := ha)
  · unfold ch at hq
    rw [if_neg (by omega)] at hq
    exact hq
  · unfold ch at hq
    rw [if_pos (by omega), ← bt_e] at hq
    exact ldI 320 p (hT.2.2 p (by omega)) hq (hi := ha)
theorem TM.fr {σ τ : Mm} {T : Tp} (h : TM σ T) (e1 : τ.1 98 2 = σ.1 98 2) (e2 : τ.1 99 = σ.1 99) : TM τ T := ⟨h.1, by rw [e1]; exact h.2.1, fun j hj => by rw [e2]; exact h.2.2 j hj⟩
theorem TM.at {σ : Mm} {T : Tp} {v : Int32} (h : TM σ T) : TM (uI σ 98 3 v) T := h.fr (uI_ne (Or.inr (by decide))) (uI_n (by decide))
theorem uI_uI (σ : Mm) (a k : Nat) (v w : Int32) : uI (uI σ a k v) a k w = uI σ a k w := by
  unfold uI
  congr 1
  funext b
  by_cases q : b = a
  · subst q
    simp
    funext j
    simp [upd]
    split <;> rfl
  · simp [q]
theorem c_look : ∀ (m p : Nat) {σ : Mm} {Q : Po}, m = T.n - p → TM σ T → p ≤ T.n → σ.1 98 3 = jI (p : Int) → Q (some (.int (jI (ch T (sk T p))))) (uI σ 98 3 (jI (sk T p : Int))) → MW l G (d + 1) mX12_look [.ref 98] σ Q := by
  have loop : ∀ (m p : Nat) (σ : Mm) (Q : Po), m = T.n - p → TM σ T → p ≤ T.n → σ.1 98 3 = jI (p : Int) → Q (some (.int (jI (ch T (sk T p))))) (uI σ 98 3 (jI (sk T p : Int))) → Wp l G (d + 1) mX12_look 0 [(0, .ref 98)] [] σ Q := by
    intro m
    induction m with
    | zero =>
      intro p σ Q hm hT hp ha hq
      have hn : ch T p ≠ 32 := by
        unfold ch
        rw [if_neg (by omega)]
        omega
      have ci := ch_in T p
      rw [sk_n hn, uI_id ha] at hq
      refine wX12_look [] 40 ?_
      refine c_here p hT hp ha ?_
      refine breq (ch T p) 32 (fun q => absurd q hn) (fun _ => ?_) (hx := rfl) (hy := rfl)
      exact c_here p hT hp ha hq
    | succ m ih =>
      intro p σ Q hm hT hp ha hq
      have ci := ch_in T p
      refine wX12_look [(0, [0])] 40 ?_
      refine c_here p hT hp ha ?_
      refine breq (ch T p) 32 (fun q => ?_) (fun q => ?_) (hx := rfl) (hy := rfl)
      · refine ih (p + 1) _ Q (by omega) hT.at (by omega) (by rw [uI_at, ha]; first | rfl | assumption | (simp only [jlit, jneg, jadd, jsub, jmul]; done) | (simp only [jlit, jneg, jadd, jsub, jmul]; congr 1 <;> omega) | (congr 1 <;> omega)) ?_
        rw [← sk_y q, uI_uI]
        exact hq
      · rw [sk_n q, uI_id ha] at hq
        exact c_here p hT hp ha hq
  intro m p σ Q hm hT hp ha hq
  have ci := ch_in T p
  refine vX12_look [(0, [0])] 40 ?_
  refine c_here p hT hp ha ?_
  refine breq (ch T p) 32 (fun q => ?_) (fun q => ?_) (hx := rfl) (hy := rfl)
  · have hp2 : p < T.n := by
      unfold ch at q
      split at q
      · assumption
      · omega
    refine loop (T.n - (p + 1)) (p + 1) _ Q rfl hT.at (by omega) (by rw [uI_at, ha]; first | rfl | assumption | (simp only [jlit, jneg, jadd, jsub, jmul]; done) | (simp only [jlit, jneg, jadd, jsub, jmul]; congr 1 <;> omega) | (congr 1 <;> omega)) ?_
    rw [← sk_y q, uI_uI]
    exact hq
  · rw [sk_n q, uI_id ha] at hq
    exact c_here p hT hp ha hq
theorem c_isDigit (p : Nat) (hT : TM σ T) (hp : p ≤ T.n) (ha : σ.1 98 3 = jI (p : Int)) (hq : Q (some (.int (if dg T p then 1 else 0))) σ) : MW l G (d + 1) mX12_isDigit [.ref 98] σ Q := by
  have ci := ch_in T p
  refine vX12_isDigit [] 40 ?_
  refine c_here p hT hp ha ?_
  refine brlt (ch T p) 48 (fun q => ?_) (fun q1 => ?_) (hx := rfl) (hy := rfl)
  · rw [if_neg (by omega)] at hq
    exact ⟨Or.inl rfl, hq⟩
  · refine c_here p hT hp ha ?_
    refine brlt 57 (ch T p) (fun q => ?_) (fun q2 => ?_) (hx := rfl) (hy := rfl)
    · rw [if_neg (by omega)] at hq
      exact ⟨Or.inl rfl, hq⟩
    · rw [if_pos (by omega)] at hq
      exact ⟨Or.inr rfl, hq⟩
/-- up to four digits from a place: where they end, the number -/
def nuF (T : Tp) : Nat → Nat → Int → Nat × Int
  | 0, j, v => (j, v)
  | k + 1, j, v => if dg T j then nuF T k (j + 1) (10 * v + (ch T j - 48)) else (j, v)
theorem nuF_in (T : Tp) : ∀ k j v, j ≤ T.n → 0 ≤ v → j ≤ (nuF T k j v).1 ∧ (nuF T k j v).1 ≤ T.n ∧ 0 ≤ (nuF T k j v).2 ∧ (nuF T k j v).2 < (v + 1) * 10 ^ k
  | 0, j, v, hj, hv => ⟨Nat.le_refl _, hj, hv, by show v < (v + 1) * 1; omega⟩
  | k + 1, j, v, hj, hv => by
    unfold nuF
    by_cases q : dg T j
    · rw [if_pos q]
      have hlt := dg_lt q
      have h := nuF_in T k (j + 1) (10 * v + (ch T j - 48)) (by omega) (by omega)
      refine ⟨by omega, h.2.1, h.2.2.1, Int.lt_of_lt_of_le h.2.2.2 ?_⟩
      rw [Int.pow_succ, show (v + 1) * (10 ^ k * 10) = ((v + 1) * 10) * 10 ^ k by rw [Int.mul_assoc, Int.mul_comm (10 ^ k) 10]]
      exact Int.mul_le_mul_of_nonneg_right (by omega) (Int.pow_nonneg (by omega))
    · rw [if_neg q]
      refine ⟨Nat.le_refl _, hj, hv, ?_⟩
      show v < (v + 1) * 10 ^ (k + 1)
      have : (1 : Int) ≤ 10 ^ (k + 1) := Int.pow_pos (by omega)
      have h2 : (v + 1) * 1 ≤ (v + 1) * 10 ^ (k + 1) := Int.mul_le_mul_of_nonneg_left this (by omega)
      omega
end MP1
section KP1
variable {l : Launch} {G : GT} {d : Nat} {σ : Mm} {Q : Po} {T : Tp}
/-- the class's sign: 0 behind the last -/
def cz (T : Tp) (j : Nat) : Int := if j < T.n then bt T j else 0
theorem cz_in (T : Tp) (j : Nat) : 0 ≤ cz T j ∧ cz T j ≤ 255 := by
  have := bt_in T j
  unfold cz
  split <;> omega
theorem cz_ch {T : Tp} {j : Nat} {v : Int} (hv : 1 ≤ v) : cz T j = v ↔ ch T j = v := by
  unfold cz ch
  split <;> omega
theorem cz_dg {T : Tp} {j : Nat} : (48 ≤ cz T j ∧ cz T j ≤ 57) ↔ dg T j := by
  unfold cz dg ch
  split <;> omega
theorem k_at {x : Int32} (p : Nat) (hT : TK σ T) (hp : p ≤ 1000) (hq : Q (some (.int (jI (cz T p)))) σ) (ex : x = jI (p : Int) := by first | rfl | assumption | (simp only [jlit, jneg, jadd, jsub, jmul]; done) | (simp only [jlit, jneg, jadd, jsub, jmul]; congr 1 <;> omega) | (congr 1 <;> omega)) : MW l G d mX9_at [.ref 6, .int x] σ Q := by
  have h1 := hT.1
  refine vX9_at [] 40 ?_
  refine brlt (p : Int) 0 (fun q => by omega) (fun _ => ?_) (hx := ex) (hy := rfl)
  refine brle (T.n : Int) (p : Int) (fun q => ?_) (fun q => ?_) (hx := hT.2.1) (hy := ex)
  · unfold cz at hq
    rw [if_neg (by omega)] at hq
    exact hq
  · unfold cz at hq
    rw [if_pos (by omega), ← bt_e] at hq
    exact ldI 320 p (hT.2.2 p (by omega)) hq (hi := ex)
theorem TK.fr {σ τ : Mm} {T : Tp} (h : TK σ T) (e1 : τ.1 6 = σ.1 6) (e2 : τ.1 7 = σ.1 7) : TK τ T := ⟨h.1, by rw [e1]; exact h.2.1, fun j hj => by rw [e2]; exact h.2.2 j hj⟩
theorem TK.rd {σ : Mm} {T : Tp} {k : Nat} {v : Int32} (h : TK σ T) : TK (uI σ 8 k v) T := h.fr (uI_n (by decide)) (uI_n (by decide))
theorem k_isDigitS {x : Int32} (c : Int) (hc : -1000 ≤ c ∧ c ≤ 1000) (hq : Q (some (.int (if 48 ≤ c ∧ c ≤ 57 then 1 else 0))) σ) (ex : x = jI c := by first | rfl | assumption | (simp only [jlit, jneg, jadd, jsub, jmul]; done) | (simp only [jlit, jneg, jadd, jsub, jmul]; congr 1 <;> omega) | (congr 1 <;> omega)) : MW l G d mX4_isDigit [.int x] σ Q := by
  refine vX4_isDigit [] 40 ?_
  refine brlt c 48 (fun q => ?_) (fun q1 => ?_) (hx := ex) (hy := rfl)
  · rw [if_neg (by omega)] at hq
    exact ⟨Or.inl rfl, hq⟩
  · refine brlt 57 c (fun q => ?_) (fun q2 => ?_) (hx := rfl) (hy := ex)
    · rw [if_neg (by omega)] at hq
      exact ⟨Or.inl rfl, hq⟩
    · rw [if_pos (by omega)] at hq
      exact ⟨Or.inr rfl, hq⟩
theorem k_skipBlanks (p : Nat) (hT : TK σ T) (hp : p ≤ T.n) (ha : σ.1 8 5 = jI (p : Int)) (hq : Q none (uI σ 8 5 (jI (sk T p : Int)))) : MW l G (d + 1) mX4_skipBlanks [.ref 8] σ Q := by
  have h1 := hT.1
  have loop : ∀ (m p : Nat) (σ : Mm), m = T.n - p → TK σ T → p ≤ T.n → σ.1 8 5 = jI (p : Int) → Q none (uI σ 8 5 (jI (sk T p : Int))) → Wp l G (d + 1) mX4_skipBlanks 0 [(0, .ref 8)] [] σ Q := by
    intro m
    induction m with
    | zero =>
      intro p σ hm hT hp ha hq
      have hn : ch T p ≠ 32 := by
        unfold ch
        rw [if_neg (by omega)]
        omega
      rw [sk_n hn, uI_id ha] at hq
      refine wX4_skipBlanks [] 40 ?_
      exact brle (T.n : Int) (p : Int) (fun _ => hq) (fun q => by omega) (hx := hT.2.1) (hy := ha)
    | succ m ih =>
      intro p σ hm hT hp ha hq
      have ci := cz_in T p
      refine wX4_skipBlanks [(0, [0])] 40 ?_
      refine brle (T.n : Int) (p : Int) (fun q => by omega) (fun _ => ?_) (hx := hT.2.1) (hy := ha)
      refine k_at p hT (by omega) ?_ ha
      refine breq (cz T p) 32 (fun q => ?_) (fun q => ?_) (hx := rfl) (hy := rfl)
      · have q' := (cz_ch (by omega)).1 q
        refine ih (p + 1) _ (by omega) hT.rd (by omega) (by rw [uI_at, ha]; first | rfl | assumption | (simp only [jlit, jneg, jadd, jsub, jmul]; done) | (simp only [jlit, jneg, jadd, jsub, jmul]; congr 1 <;> omega) | (congr 1 <;> omega)) ?_
        rw [← sk_y q', uI_uI]
        exact hq
      · have q' : ch T p ≠ 32 := fun z => q ((cz_ch (by omega)).2 z)
        rw [sk_n q', uI_id ha] at hq
        exact hq
  refine vX4_skipBlanks [(0, [0])] 40 ?_
  refine brle (T.n : Int) (p : Int) (fun q => ?_) (fun q => ?_) (hx := hT.2.1) (hy := ha)
  · have hn : ch T p ≠ 32 := by
      unfold ch
      rw [if_neg (by omega)]
      omega
    rw [sk_n hn, uI_id ha] at hq
    exact hq
  · have ci := cz_in T p
    refine k_at p hT (by omega) ?_ ha
    refine breq (cz T p) 32 (fun q => ?_) (fun q => ?_) (hx := rfl) (hy := rfl)
    · have q' := (cz_ch (by omega)).1 q
      refine loop (T.n - (p + 1)) (p + 1) _ rfl hT.rd (by omega) (by rw [uI_at, ha]; first | rfl | assumption | (simp only [jlit, jneg, jadd, jsub, jmul]; done) | (simp only [jlit, jneg, jadd, jsub, jmul]; congr 1 <;> omega) | (congr 1 <;> omega)) ?_
      rw [← sk_y q', uI_uI]
      exact hq
    · have q' : ch T p ≠ 32 := fun z => q ((cz_ch (by omega)).2 z)
      rw [sk_n q', uI_id ha] at hq
      exact hq
end KP1
