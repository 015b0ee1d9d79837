-- steps of a body, in whole numbers
theorem ldI {f : Nat → Int32} {i : Int32} {P : Int32 → Prop} (n z : Nat) {v : Int32} (hv : f z = v) (h : P v) (hz : z < n := by omega) (hi : i = jI z := by first | rfl | assumption | (simp only [jlit, jneg, jadd, jsub, jmul]; done) | (simp only [jlit, jneg, jadd, jsub, jmul]; congr 1 <;> omega) | (congr 1 <;> omega)) (hn : n < 2147483648 := by omega) : vp_in i n ∧ ∀ x, f i.toNatClampNeg = x → P x := by
  subst hi
  refine ⟨jin_of (by omega) (by omega) hn, fun x hx => ?_⟩
  rw [jix (by omega), Int.toNat_natCast, hv] at hx
  subst hx
  exact h
theorem ldL {f : Nat → Int64} {i : Int32} {P : Int64 → Prop} (n z : Nat) {v : Int64} (hv : f z = v) (h : P v) (hz : z < n := by omega) (hi : i = jI z := by first | rfl | assumption | (simp only [jlit, jneg, jadd, jsub, jmul]; done) | (simp only [jlit, jneg, jadd, jsub, jmul]; congr 1 <;> omega) | (congr 1 <;> omega)) (hn : n < 2147483648 := by omega) : vp_in i n ∧ ∀ x, f i.toNatClampNeg = x → P x := by
  subst hi
  refine ⟨jin_of (by omega) (by omega) hn, fun x hx => ?_⟩
  rw [jix (by omega), Int.toNat_natCast, hv] at hx
  subst hx
  exact h
theorem ldN {f : Nat → Nat} {i : Int32} {P : Nat → Prop} (n z : Nat) {v : Nat} (hv : f z = v) (h : P v) (hz : z < n := by omega) (hi : i = jI z := by first | rfl | assumption | (simp only [jlit, jneg, jadd, jsub, jmul]; done) | (simp only [jlit, jneg, jadd, jsub, jmul]; congr 1 <;> omega) | (congr 1 <;> omega)) (hn : n < 2147483648 := by omega) : vp_in i n ∧ ∀ x, f i.toNatClampNeg = x → P x := by
  subst hi
  refine ⟨jin_of (by omega) (by omega) hn, fun x hx => ?_⟩
  rw [jix (by omega), Int.toNat_natCast, hv] at hx
  subst hx
  exact h
/-- a store: the place as a number -/
theorem stI {i : Int32} {P : Nat → Prop} (n z : Nat) (h : P z) (hz : z < n := by omega) (hi : i = jI z := by first | rfl | assumption | (simp only [jlit, jneg, jadd, jsub, jmul]; done) | (simp only [jlit, jneg, jadd, jsub, jmul]; congr 1 <;> omega) | (congr 1 <;> omega)) (hn : n < 2147483648 := by omega) : vp_in i n ∧ ∀ k, i.toNatClampNeg = k → P k := by
  subst hi
  refine ⟨jin_of (by omega) (by omega) hn, fun k hk => ?_⟩
  rw [jix (by omega), Int.toNat_natCast] at hk
  subst hk
  exact h
theorem brlt {x y : Int32} {A B : Prop} (a b : Int) (f : a < b → A) (g : b ≤ a → B) (hx : x = jI a := by first | rfl | assumption | (simp only [jlit, jneg, jadd, jsub, jmul]; done) | (simp only [jlit, jneg, jadd, jsub, jmul]; congr 1 <;> omega) | (congr 1 <;> omega)) (hy : y = jI b := by first | rfl | assumption | (simp only [jlit, jneg, jadd, jsub, jmul]; done) | (simp only [jlit, jneg, jadd, jsub, jmul]; congr 1 <;> omega) | (congr 1 <;> omega)) (ra : R31 a := by omega) (rb : R31 b := by omega) : (x < y → A) ∧ (¬ x < y → B) := by
  subst hx; subst hy
  rw [jlt ra rb]
  exact ⟨f, fun h => g (by omega)⟩
theorem brle {x y : Int32} {A B : Prop} (a b : Int) (f : a ≤ b → A) (g : b < a → B) (hx : x = jI a := by first | rfl | assumption | (simp only [jlit, jneg, jadd, jsub, jmul]; done) | (simp only [jlit, jneg, jadd, jsub, jmul]; congr 1 <;> omega) | (congr 1 <;> omega)) (hy : y = jI b := by first | rfl | assumption | (simp only [jlit, jneg, jadd, jsub, jmul]; done) | (simp only [jlit, jneg, jadd, jsub, jmul]; congr 1 <;> omega) | (congr 1 <;> omega)) (ra : R31 a := by omega) (rb : R31 b := by omega) : (x ≤ y → A) ∧ (¬ x ≤ y → B) := by
  subst hx; subst hy
  rw [jle ra rb]
  exact ⟨f, fun h => g (by omega)⟩
theorem breq {x y : Int32} {A B : Prop} (a b : Int) (f : a = b → A) (g : a ≠ b → B) (hx : x = jI a := by first | rfl | assumption | (simp only [jlit, jneg, jadd, jsub, jmul]; done) | (simp only [jlit, jneg, jadd, jsub, jmul]; congr 1 <;> omega) | (congr 1 <;> omega)) (hy : y = jI b := by first | rfl | assumption | (simp only [jlit, jneg, jadd, jsub, jmul]; done) | (simp only [jlit, jneg, jadd, jsub, jmul]; congr 1 <;> omega) | (congr 1 <;> omega)) (ra : R31 a := by omega) (rb : R31 b := by omega) : (x = y → A) ∧ (¬ x = y → B) := by
  subst hx; subst hy
  rw [jeq ra rb]
  exact ⟨f, g⟩
theorem bclt {x y : Int64} {A B : Prop} (a b : Int) (f : a < b → A) (g : b ≤ a → B) (hx : x = jL a := by first | rfl | assumption | (simp only [jLlit, jLadd, jLsub, jLmul]; done) | (simp only [jLlit, jLadd, jLsub, jLmul]; congr 1 <;> omega) | (congr 1 <;> omega)) (hy : y = jL b := by first | rfl | assumption | (simp only [jLlit, jLadd, jLsub, jLmul]; done) | (simp only [jLlit, jLadd, jLsub, jLmul]; congr 1 <;> omega) | (congr 1 <;> omega)) (ra : R63 a := by omega) (rb : R63 b := by omega) : (lg_cmp x y < 0 → A) ∧ (¬ lg_cmp x y < 0 → B) := by
  subst hx; subst hy
  rw [jcmp_lt ra rb]
  exact ⟨f, fun h => g (by omega)⟩
theorem bcge {x y : Int64} {A B : Prop} (a b : Int) (f : b ≤ a → A) (g : a < b → B) (hx : x = jL a := by first | rfl | assumption | (simp only [jLlit, jLadd, jLsub, jLmul]; done) | (simp only [jLlit, jLadd, jLsub, jLmul]; congr 1 <;> omega) | (congr 1 <;> omega)) (hy : y = jL b := by first | rfl | assumption | (simp only [jLlit, jLadd, jLsub, jLmul]; done) | (simp only [jLlit, jLadd, jLsub, jLmul]; congr 1 <;> omega) | (congr 1 <;> omega)) (ra : R63 a := by omega) (rb : R63 b := by omega) : (0 ≤ lg_cmp x y → A) ∧ (¬ 0 ≤ lg_cmp x y → B) := by
  subst hx; subst hy
  rw [jcmp_ge ra rb]
  exact ⟨f, fun h => g (by omega)⟩
theorem bcgt {x y : Int64} {A B : Prop} (a b : Int) (f : b < a → A) (g : a ≤ b → B) (hx : x = jL a := by first | rfl | assumption | (simp only [jLlit, jLadd, jLsub, jLmul]; done) | (simp only [jLlit, jLadd, jLsub, jLmul]; congr 1 <;> omega) | (congr 1 <;> omega)) (hy : y = jL b := by first | rfl | assumption | (simp only [jLlit, jLadd, jLsub, jLmul]; done) | (simp only [jLlit, jLadd, jLsub, jLmul]; congr 1 <;> omega) | (congr 1 <;> omega)) (ra : R63 a := by omega) (rb : R63 b := by omega) : (0 < lg_cmp x y → A) ∧ (¬ 0 < lg_cmp x y → B) := by
  subst hx; subst hy
  rw [jcmp_gt ra rb]
  exact ⟨f, fun h => g (by omega)⟩
theorem bcle {x y : Int64} {A B : Prop} (a b : Int) (f : a ≤ b → A) (g : b < a → B) (hx : x = jL a := by first | rfl | assumption | (simp only [jLlit, jLadd, jLsub, jLmul]; done) | (simp only [jLlit, jLadd, jLsub, jLmul]; congr 1 <;> omega) | (congr 1 <;> omega)) (hy : y = jL b := by first | rfl | assumption | (simp only [jLlit, jLadd, jLsub, jLmul]; done) | (simp only [jLlit, jLadd, jLsub, jLmul]; congr 1 <;> omega) | (congr 1 <;> omega)) (ra : R63 a := by omega) (rb : R63 b := by omega) : (lg_cmp x y ≤ 0 → A) ∧ (¬ lg_cmp x y ≤ 0 → B) := by
  subst hx; subst hy
  rw [jcmp_le ra rb]
  exact ⟨f, fun h => g (by omega)⟩
/-- a truth as an answer, tested by ifeq / ifne -/
theorem brz {c : Prop} {A B : Prop} (i : Decidable c) (f : ¬ c → A) (g : c → B) : ((if c then (1 : Int32) else 0) = 0 → A) ∧ (¬ (if c then (1 : Int32) else 0) = 0 → B) := by
  by_cases h : c
  · rw [if_pos h]
    exact ⟨fun q => absurd q (by decide), fun _ => g h⟩
  · rw [if_neg h]
    exact ⟨fun _ => f h, fun q => absurd rfl q⟩
theorem z01 {c : Prop} (i : Decidable c) : (if c then (1 : Int32) else 0) = 0 ∨ (if c then (1 : Int32) else 0) = 1 := by
  by_cases h : c
  · rw [if_pos h]; exact Or.inr rfl
  · rw [if_neg h]; exact Or.inl rfl
