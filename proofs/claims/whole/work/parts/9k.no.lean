-- answers without a loan
section No
variable {l : Launch} {G : GT} {d : Nat} {σ : Mm} {Q : Po}
theorem k0_rule {x : Int32} (h : σ.1 1 1 = 0) (hq : Q (some (.int (-1))) σ) : MW l G (d + 2) mX11_rule [.ref 0, .int x] σ Q := by
  refine vX11_rule [] 60 ?_
  refine k_noLoan 0 h (by omega) ?_
  exact brz _ (fun q => absurd rfl q) (fun _ => hq)
theorem c0_rule {x : Int32} (h : σ.1 98 17 = 0) (hq : Q (some (.int (-1))) (uI σ 98 0 0)) : MW l G (d + 2) mX12_rule [.ref 98, .int x] σ Q := by
  have h' : (uI σ 98 0 0).1 98 17 = 0 := by rw [uI_ne (Or.inr (by decide))]; exact h
  refine vX12_rule [] 60 ?_
  exact And.intro (fun _ => hq) (fun q => absurd h' q)
theorem k0_year {x y : Int32} (h : σ.1 1 1 = 0) (hq : Q (some (.int (-1))) σ) : MW l G (d + 2) mX11_year [.ref 0, .int x, .int y] σ Q := by
  refine vX11_year [] 60 ?_
  refine k_noLoan 0 h (by omega) ?_
  exact brz _ (fun q => absurd rfl q) (fun _ => hq)
theorem c0_year {x y : Int32} (h : σ.1 98 17 = 0) (hq : Q (some (.int (-1))) (uI σ 98 0 0)) : MW l G (d + 2) mX12_year [.ref 98, .int x, .int y] σ Q := by
  have h' : (uI σ 98 0 0).1 98 17 = 0 := by rw [uI_ne (Or.inr (by decide))]; exact h
  refine vX12_year [] 60 ?_
  exact And.intro (fun _ => hq) (fun q => absurd h' q)
theorem k0_best {x y : Int32} (a b : Int) (ra : R31 a) (rb : R31 b) (h : σ.1 1 1 = 0) (hq : Q (some (.int (-1))) σ) (ex : x = jI a := by first | rfl | assumption | (simp only [jlit, jneg, jadd, jsub, jmul]; done) | (simp only [jlit, jneg, jadd, jsub, jmul]; congr 1 <;> omega) | (congr 1 <;> omega)) (ey : y = jI b := by first | rfl | assumption | (simp only [jlit, jneg, jadd, jsub, jmul]; done) | (simp only [jlit, jneg, jadd, jsub, jmul]; congr 1 <;> omega) | (congr 1 <;> omega)) : MW l G (d + 2) mX11_best [.ref 0, .int x, .int y] σ Q := by
  refine vX11_best [] 60 ?_
  refine k_isNode 0 a b h (by omega) ra rb ?_
  exact brz _ (fun _ => hq) (fun q => by omega)
theorem c0_best {x y : Int32} (h : σ.1 98 17 = 0) (hq : Q (some (.int (-1))) (uI σ 98 0 0)) : MW l G (d + 2) mX12_best [.ref 98, .int x, .int y] σ Q := by
  have h' : (uI σ 98 0 0).1 98 17 = 0 := by rw [uI_ne (Or.inr (by decide))]; exact h
  refine vX12_best [] 60 ?_
  refine c_isNode0 h' ?_
  exact And.intro (fun _ => hq) (fun q => absurd rfl q)
theorem k0_deed {x y : Int32} (a b : Int) (ra : R31 a) (rb : R31 b) (h : σ.1 1 1 = 0) (hq : Q (some (.int (-1))) σ) (ex : x = jI a := by first | rfl | assumption | (simp only [jlit, jneg, jadd, jsub, jmul]; done) | (simp only [jlit, jneg, jadd, jsub, jmul]; congr 1 <;> omega) | (congr 1 <;> omega)) (ey : y = jI b := by first | rfl | assumption | (simp only [jlit, jneg, jadd, jsub, jmul]; done) | (simp only [jlit, jneg, jadd, jsub, jmul]; congr 1 <;> omega) | (congr 1 <;> omega)) : MW l G (d + 2) mX11_deed [.ref 0, .int x, .int y] σ Q := by
  refine vX11_deed [] 60 ?_
  refine k_isNode 0 a b h (by omega) ra rb ?_
  exact brz _ (fun _ => hq) (fun q => by omega)
theorem c0_deed {x y : Int32} (h : σ.1 98 17 = 0) (hq : Q (some (.int (-1))) (uI σ 98 0 0)) : MW l G (d + 2) mX12_deed [.ref 98, .int x, .int y] σ Q := by
  have h' : (uI σ 98 0 0).1 98 17 = 0 := by rw [uI_ne (Or.inr (by decide))]; exact h
  refine vX12_deed [] 60 ?_
  refine c_isNode0 h' ?_
  exact And.intro (fun _ => hq) (fun q => absurd rfl q)
theorem k0_byPolicy {x y : Int32} (a b : Int) (ra : R31 a) (rb : R31 b) (h : σ.1 1 1 = 0) (hq : Q (some (.long (-1))) σ) (ex : x = jI a := by first | rfl | assumption | (simp only [jlit, jneg, jadd, jsub, jmul]; done) | (simp only [jlit, jneg, jadd, jsub, jmul]; congr 1 <;> omega) | (congr 1 <;> omega)) (ey : y = jI b := by first | rfl | assumption | (simp only [jlit, jneg, jadd, jsub, jmul]; done) | (simp only [jlit, jneg, jadd, jsub, jmul]; congr 1 <;> omega) | (congr 1 <;> omega)) : MW l G (d + 2) mX11_byPolicy [.ref 0, .int x, .int y] σ Q := by
  refine vX11_byPolicy [] 60 ?_
  refine k_isNode 0 a b h (by omega) ra rb ?_
  exact brz _ (fun _ => hq) (fun q => by omega)
theorem c0_byPolicy {x y : Int32} (h : σ.1 98 17 = 0) (hq : Q (some (.long (-1))) (uI σ 98 0 0)) : MW l G (d + 2) mX12_byPolicy [.ref 98, .int x, .int y] σ Q := by
  have h' : (uI σ 98 0 0).1 98 17 = 0 := by rw [uI_ne (Or.inr (by decide))]; exact h
  refine vX12_byPolicy [] 60 ?_
  refine c_isNode0 h' ?_
  exact And.intro (fun _ => hq) (fun q => absurd rfl q)
theorem k0_mended {x y : Int32} (a b : Int) (ra : R31 a) (rb : R31 b) (h : σ.1 1 1 = 0) (hq : Q (some (.int (-1))) σ) (ex : x = jI a := by first | rfl | assumption | (simp only [jlit, jneg, jadd, jsub, jmul]; done) | (simp only [jlit, jneg, jadd, jsub, jmul]; congr 1 <;> omega) | (congr 1 <;> omega)) (ey : y = jI b := by first | rfl | assumption | (simp only [jlit, jneg, jadd, jsub, jmul]; done) | (simp only [jlit, jneg, jadd, jsub, jmul]; congr 1 <;> omega) | (congr 1 <;> omega)) : MW l G (d + 2) mX11_mended [.ref 0, .int x, .int y] σ Q := by
  refine vX11_mended [] 60 ?_
  refine k_isNode 0 a b h (by omega) ra rb ?_
  exact brz _ (fun _ => hq) (fun q => by omega)
theorem c0_mended {x y : Int32} (h : σ.1 98 17 = 0) (hq : Q (some (.int (-1))) (uI σ 98 0 0)) : MW l G (d + 2) mX12_mended [.ref 98, .int x, .int y] σ Q := by
  have h' : (uI σ 98 0 0).1 98 17 = 0 := by rw [uI_ne (Or.inr (by decide))]; exact h
  refine vX12_mended [] 60 ?_
  refine c_isNode0 h' ?_
  exact And.intro (fun _ => hq) (fun q => absurd rfl q)
theorem k0_edge {x : Int32} (a : Int) (ra : R31 a) (h : σ.1 1 1 = 0) (hq : Q (some (.int (-1))) σ) (ex : x = jI a := by first | rfl | assumption | (simp only [jlit, jneg, jadd, jsub, jmul]; done) | (simp only [jlit, jneg, jadd, jsub, jmul]; congr 1 <;> omega) | (congr 1 <;> omega)) : MW l G (d + 2) mX11_edge [.ref 0, .int x] σ Q := by
  refine vX11_edge [] 60 ?_
  refine k_isNode 0 a 0 h (by omega) ra (by omega) ?_
  exact brz _ (fun _ => hq) (fun q => by omega)
theorem c0_edge {x : Int32} (h : σ.1 98 17 = 0) (hq : Q (some (.int (-1))) (uI σ 98 0 0)) : MW l G (d + 2) mX12_edge [.ref 98, .int x] σ Q := by
  have h' : (uI σ 98 0 0).1 98 17 = 0 := by rw [uI_ne (Or.inr (by decide))]; exact h
  refine vX12_edge [] 60 ?_
  refine c_isNode0 h' ?_
  exact And.intro (fun _ => hq) (fun q => absurd rfl q)
theorem k0_sums {x : Int32} (h : σ.1 1 1 = 0) (hq : Q (some (.int (-1))) σ) : MW l G (d + 2) mX11_sums [.ref 0, .int x] σ Q := by
  refine vX11_sums [] 60 ?_
  refine k_closed 0 0 h (by omega) (fun q => absurd rfl q) ?_
  exact brz _ (fun q => absurd (Or.inl rfl) q) (fun _ => hq)
theorem c0_sums {x : Int32} (h : σ.1 98 17 = 0) (hq : Q (some (.int (-1))) (uI σ 98 0 0)) : MW l G (d + 2) mX12_sums [.ref 98, .int x] σ Q := by
  have h' : (uI σ 98 0 0).1 98 17 = 0 := by rw [uI_ne (Or.inr (by decide))]; exact h
  refine vX12_sums [] 60 ?_
  refine c_isOver0 h' ?_
  exact And.intro (fun q => absurd q (by decide)) (fun _ => hq)
theorem k0_way {x y : Int32} (h : σ.1 1 1 = 0) (hq : Q (some (.int (-1))) σ) : MW l G (d + 2) mX11_way [.ref 0, .int x, .int y] σ Q := by
  refine vX11_way [] 60 ?_
  refine k_closed 0 0 h (by omega) (fun q => absurd rfl q) ?_
  exact brz _ (fun q => absurd (Or.inl rfl) q) (fun _ => hq)
theorem c0_way {x y : Int32} (h : σ.1 98 17 = 0) (hq : Q (some (.int (-1))) (uI σ 98 0 0)) : MW l G (d + 2) mX12_way [.ref 98, .int x, .int y] σ Q := by
  have h' : (uI σ 98 0 0).1 98 17 = 0 := by rw [uI_ne (Or.inr (by decide))]; exact h
  refine vX12_way [] 60 ?_
  refine c_isOver0 h' ?_
  exact And.intro (fun q => absurd q (by decide)) (fun _ => hq)
theorem k0_mass {x y : Int32} (h : σ.1 1 1 = 0) (hq : Q (some (.int (-1))) σ) : MW l G (d + 2) mX11_mass [.ref 0, .int x, .int y] σ Q := by
  refine vX11_mass [] 60 ?_
  refine k_closed 0 0 h (by omega) (fun q => absurd rfl q) ?_
  exact brz _ (fun q => absurd (Or.inl rfl) q) (fun _ => hq)
theorem c0_mass {x y : Int32} (h : σ.1 98 17 = 0) (hq : Q (some (.int (-1))) (uI σ 98 0 0)) : MW l G (d + 2) mX12_mass [.ref 98, .int x, .int y] σ Q := by
  have h' : (uI σ 98 0 0).1 98 17 = 0 := by rw [uI_ne (Or.inr (by decide))]; exact h
  refine vX12_mass [] 60 ?_
  refine c_isOver0 h' ?_
  exact And.intro (fun q => absurd q (by decide)) (fun _ => hq)
theorem k0_masses {x : Int32} (h : σ.1 1 1 = 0) (hq : Q (some (.int (-1))) σ) : MW l G (d + 2) mX11_masses [.ref 0, .int x] σ Q := by
  refine vX11_masses [] 60 ?_
  refine k_closed 0 0 h (by omega) (fun q => absurd rfl q) ?_
  exact brz _ (fun q => absurd (Or.inl rfl) q) (fun _ => hq)
theorem c0_masses {x : Int32} (h : σ.1 98 17 = 0) (hq : Q (some (.int (-1))) (uI σ 98 0 0)) : MW l G (d + 2) mX12_masses [.ref 98, .int x] σ Q := by
  have h' : (uI σ 98 0 0).1 98 17 = 0 := by rw [uI_ne (Or.inr (by decide))]; exact h
  refine vX12_masses [] 60 ?_
  refine c_isOver0 h' ?_
  exact And.intro (fun q => absurd q (by decide)) (fun _ => hq)
theorem k0_worth (h : σ.1 1 1 = 0) (hq : Q (some (.long (-1))) σ) : MW l G (d + 2) mX11_worth [.ref 0] σ Q := by
  refine vX11_worth [] 60 ?_
  refine k_closed 0 0 h (by omega) (fun q => absurd rfl q) ?_
  exact brz _ (fun q => absurd (Or.inl rfl) q) (fun _ => hq)
theorem c0_worth (h : σ.1 98 17 = 0) (hq : Q (some (.long (-1))) (uI σ 98 0 0)) : MW l G (d + 2) mX12_worth [.ref 98] σ Q := by
  have h' : (uI σ 98 0 0).1 98 17 = 0 := by rw [uI_ne (Or.inr (by decide))]; exact h
  refine vX12_worth [] 60 ?_
  refine c_isOver0 h' ?_
  exact And.intro (fun q => absurd q (by decide)) (fun _ => hq)
theorem k0_margin (h : σ.1 1 1 = 0) (hq : Q (some (.long (-1000000))) σ) : MW l G (d + 2) mX11_margin [.ref 0] σ Q := by
  refine vX11_margin [] 60 ?_
  refine k_closed 0 0 h (by omega) (fun q => absurd rfl q) ?_
  exact brz _ (fun q => absurd (Or.inl rfl) q) (fun _ => hq)
theorem c0_margin (h : σ.1 98 17 = 0) (hq : Q (some (.long (-1000000))) (uI σ 98 0 0)) : MW l G (d + 2) mX12_margin [.ref 98] σ Q := by
  have h' : (uI σ 98 0 0).1 98 17 = 0 := by rw [uI_ne (Or.inr (by decide))]; exact h
  refine vX12_margin [] 60 ?_
  refine c_isOver0 h' ?_
  exact And.intro (fun q => absurd q (by decide)) (fun _ => hq)
theorem k0_till (h : σ.1 1 1 = 0) (hq : Q (some (.int (-1))) σ) : MW l G (d + 2) mX11_till [.ref 0] σ Q := by
  refine vX11_till [] 60 ?_
  refine k_closed 0 0 h (by omega) (fun q => absurd rfl q) ?_
  exact brz _ (fun q => absurd (Or.inl rfl) q) (fun _ => hq)
theorem c0_till (h : σ.1 98 17 = 0) (hq : Q (some (.int (-1))) (uI σ 98 0 0)) : MW l G (d + 2) mX12_till [.ref 98] σ Q := by
  have h' : (uI σ 98 0 0).1 98 17 = 0 := by rw [uI_ne (Or.inr (by decide))]; exact h
  refine vX12_till [] 60 ?_
  refine c_isOver0 h' ?_
  exact And.intro (fun q => absurd q (by decide)) (fun _ => hq)
theorem k0_fair (h : σ.1 1 1 = 0) (hq : Q (some (.int (-1))) σ) : MW l G (d + 2) mX11_fair [.ref 0] σ Q := by
  refine vX11_fair [] 60 ?_
  refine k_closed 0 0 h (by omega) (fun q => absurd rfl q) ?_
  exact brz _ (fun q => absurd (Or.inl rfl) q) (fun _ => hq)
theorem c0_fair (h : σ.1 98 17 = 0) (hq : Q (some (.int (-1))) (uI σ 98 0 0)) : MW l G (d + 2) mX12_fair [.ref 98] σ Q := by
  have h' : (uI σ 98 0 0).1 98 17 = 0 := by rw [uI_ne (Or.inr (by decide))]; exact h
  refine vX12_fair [] 60 ?_
  refine c_isOver0 h' ?_
  exact And.intro (fun q => absurd q (by decide)) (fun _ => hq)
theorem k0_ending {x y : Int32} (h : σ.1 1 1 = 0) (hq : Q (some (.int (-1))) σ) : MW l G (d + 2) mX11_ending [.ref 0, .int x, .int y] σ Q := by
  refine vX11_ending [] 60 ?_
  refine k_closed 0 0 h (by omega) (fun q => absurd rfl q) ?_
  exact brz _ (fun q => absurd (Or.inl rfl) q) (fun _ => hq)
theorem c0_ending {x y : Int32} (h : σ.1 98 17 = 0) (hq : Q (some (.int (-1))) (uI σ 98 0 0)) : MW l G (d + 2) mX12_ending [.ref 98, .int x, .int y] σ Q := by
  have h' : (uI σ 98 0 0).1 98 17 = 0 := by rw [uI_ne (Or.inr (by decide))]; exact h
  refine vX12_ending [] 60 ?_
  refine c_isOver0 h' ?_
  exact And.intro (fun q => absurd q (by decide)) (fun _ => hq)
theorem k0_saved (h : σ.1 1 1 = 0) (hq : Q (some (.long (-1))) σ) : MW l G (d + 2) mX11_saved [.ref 0] σ Q := by
  refine vX11_saved [] 60 ?_
  refine k_closed 0 0 h (by omega) (fun q => absurd rfl q) ?_
  exact brz _ (fun q => absurd (Or.inl rfl) q) (fun _ => hq)
theorem c0_saved (h : σ.1 98 17 = 0) (hq : Q (some (.long (-1))) (uI σ 98 0 0)) : MW l G (d + 2) mX12_saved [.ref 98] σ Q := by
  have h' : (uI σ 98 0 0).1 98 17 = 0 := by rw [uI_ne (Or.inr (by decide))]; exact h
  refine vX12_saved [] 60 ?_
  refine c_isOver0 h' ?_
  exact And.intro (fun q => absurd q (by decide)) (fun _ => hq)
theorem k0_regret (h : σ.1 1 1 = 0) (hq : Q (some (.long (-1))) σ) : MW l G (d + 2) mX11_regret [.ref 0] σ Q := by
  refine vX11_regret [] 60 ?_
  refine k_closed 0 0 h (by omega) (fun q => absurd rfl q) ?_
  exact brz _ (fun q => absurd (Or.inl rfl) q) (fun _ => hq)
theorem c0_regret (h : σ.1 98 17 = 0) (hq : Q (some (.long (-1))) (uI σ 98 0 0)) : MW l G (d + 2) mX12_regret [.ref 98] σ Q := by
  have h' : (uI σ 98 0 0).1 98 17 = 0 := by rw [uI_ne (Or.inr (by decide))]; exact h
  refine vX12_regret [] 60 ?_
  refine c_isOver0 h' ?_
  exact And.intro (fun q => absurd q (by decide)) (fun _ => hq)
theorem k0_strays {x : Int32} (h : σ.1 1 1 = 0) (hq : Q (some (.int (-1))) σ) : MW l G (d + 2) mX11_strays [.ref 0, .int x] σ Q := by
  refine vX11_strays [] 60 ?_
  refine k_closed 0 0 h (by omega) (fun q => absurd rfl q) ?_
  exact brz _ (fun q => absurd (Or.inl rfl) q) (fun _ => hq)
theorem c0_strays {x : Int32} (h : σ.1 98 17 = 0) (hq : Q (some (.int (-1))) (uI σ 98 0 0)) : MW l G (d + 2) mX12_strays [.ref 98, .int x] σ Q := by
  have h' : (uI σ 98 0 0).1 98 17 = 0 := by rw [uI_ne (Or.inr (by decide))]; exact h
  refine vX12_strays [] 60 ?_
  refine c_isOver0 h' ?_
  exact And.intro (fun q => absurd q (by decide)) (fun _ => hq)
theorem k0_rounds (h : σ.1 1 1 = 0) (hq : Q (some (.int (-1))) σ) : MW l G (d + 2) mX11_rounds [.ref 0] σ Q := by
  refine vX11_rounds [] 60 ?_
  refine k_closed 0 0 h (by omega) (fun q => absurd rfl q) ?_
  exact brz _ (fun q => absurd (Or.inl rfl) q) (fun _ => hq)
theorem c0_rounds (h : σ.1 98 17 = 0) (hq : Q (some (.int (-1))) (uI σ 98 0 0)) : MW l G (d + 2) mX12_rounds [.ref 98] σ Q := by
  have h' : (uI σ 98 0 0).1 98 17 = 0 := by rw [uI_ne (Or.inr (by decide))]; exact h
  refine vX12_rounds [] 60 ?_
  refine c_isOver0 h' ?_
  exact And.intro (fun q => absurd q (by decide)) (fun _ => hq)
theorem k0_shifted {x : Int32} (h : σ.1 1 1 = 0) (hq : Q (some (.long (-1))) σ) : MW l G (d + 2) mX11_shifted [.ref 0, .int x] σ Q := by
  refine vX11_shifted [] 60 ?_
  refine k_closed 0 0 h (by omega) (fun q => absurd rfl q) ?_
  exact brz _ (fun q => absurd (Or.inl rfl) q) (fun _ => hq)
theorem c0_shifted {x : Int32} (h : σ.1 98 17 = 0) (hq : Q (some (.long (-1))) (uI σ 98 0 0)) : MW l G (d + 2) mX12_shifted [.ref 98, .int x] σ Q := by
  have h' : (uI σ 98 0 0).1 98 17 = 0 := by rw [uI_ne (Or.inr (by decide))]; exact h
  refine vX12_shifted [] 60 ?_
  refine c_isOver0 h' ?_
  exact And.intro (fun q => absurd q (by decide)) (fun _ => hq)
theorem k0_spread {x : Int32} (h : σ.1 1 1 = 0) (hq : Q (some (.int (-1))) σ) : MW l G (d + 2) mX11_spread [.ref 0, .int x] σ Q := by
  refine vX11_spread [] 60 ?_
  refine k_closed 0 0 h (by omega) (fun q => absurd rfl q) ?_
  exact brz _ (fun q => absurd (Or.inl rfl) q) (fun _ => hq)
theorem c0_spread {x : Int32} (h : σ.1 98 17 = 0) (hq : Q (some (.int (-1))) (uI σ 98 0 0)) : MW l G (d + 2) mX12_spread [.ref 98, .int x] σ Q := by
  have h' : (uI σ 98 0 0).1 98 17 = 0 := by rw [uI_ne (Or.inr (by decide))]; exact h
  refine vX12_spread [] 60 ?_
  refine c_isOver0 h' ?_
  exact And.intro (fun q => absurd q (by decide)) (fun _ => hq)
theorem k0_most {x : Int32} (h : σ.1 1 1 = 0) (hq : Q (some (.int (-1000000))) σ) : MW l G (d + 2) mX11_most [.ref 0, .int x] σ Q := by
  refine vX11_most [] 60 ?_
  refine k_noLoan 0 h (by omega) ?_
  exact brz _ (fun q => absurd rfl q) (fun _ => hq)
theorem c0_most {x : Int32} (h : σ.1 98 17 = 0) (hq : Q (some (.int (-1000000))) (uI σ 98 0 0)) : MW l G (d + 2) mX12_most [.ref 98, .int x] σ Q := by
  have h' : (uI σ 98 0 0).1 98 17 = 0 := by rw [uI_ne (Or.inr (by decide))]; exact h
  refine vX12_most [] 60 ?_
  exact And.intro (fun _ => hq) (fun q => absurd h' q)
theorem k0_costs {x y z : Int32} (a b w : Int) (ra : R31 a) (rb : R31 b) (rw' : R31 w) (h : σ.1 1 1 = 0) (hq : Q (some (.long (jL (if ¬ (0 ≤ w ∧ w ≤ 3) then -1000000 else -1)))) σ) (ex : x = jI a := by first | rfl | assumption | (simp only [jlit, jneg, jadd, jsub, jmul]; done) | (simp only [jlit, jneg, jadd, jsub, jmul]; congr 1 <;> omega) | (congr 1 <;> omega)) (ey : y = jI b := by first | rfl | assumption | (simp only [jlit, jneg, jadd, jsub, jmul]; done) | (simp only [jlit, jneg, jadd, jsub, jmul]; congr 1 <;> omega) | (congr 1 <;> omega)) (ez : z = jI w := by first | rfl | assumption | (simp only [jlit, jneg, jadd, jsub, jmul]; done) | (simp only [jlit, jneg, jadd, jsub, jmul]; congr 1 <;> omega) | (congr 1 <;> omega)) : MW l G (d + 2) mX11_costs [.ref 0, .int x, .int y, .int z] σ Q := by
  have no : ¬ (0 ≤ w ∧ w ≤ 3) → Q (some (.long (jL (-1000000)))) σ := fun q => by
    rw [if_pos q] at hq
    exact hq
  refine vX11_costs [] 60 ?_
  refine brlt w 0 (fun q => no (by omega)) (fun q1 => ?_)
  refine brle w 3 (fun q2 => ?_) (fun q => no (by omega))
  rw [if_neg (fun z => z ⟨q1, q2⟩)] at hq
  refine k_isNode 0 a b h (by omega) ra rb ?_
  exact brz _ (fun _ => hq) (fun q => by omega)
theorem c0_costs {x y z : Int32} (w : Int) (rw' : R31 w) (h : σ.1 98 17 = 0) (hq : Q (some (.long (jL (if ¬ (0 ≤ w ∧ w ≤ 3) then -1000000 else -1)))) (uI σ 98 0 0)) (ez : z = jI w := by first | rfl | assumption | (simp only [jlit, jneg, jadd, jsub, jmul]; done) | (simp only [jlit, jneg, jadd, jsub, jmul]; congr 1 <;> omega) | (congr 1 <;> omega)) : MW l G (d + 2) mX12_costs [.ref 98, .int x, .int y, .int z] σ Q := by
  have h' : (uI σ 98 0 0).1 98 17 = 0 := by rw [uI_ne (Or.inr (by decide))]; exact h
  refine vX12_costs [] 60 ?_
  refine c_isIn w 0 3 ?_ (by rw [ez, jI_L rw'])
  refine brz _ (fun q => ?_) (fun q => ?_)
  · rw [if_pos q] at hq
    exact hq
  · rw [if_neg (fun z => z q)] at hq
    refine c_isNode0 h' ?_
    exact And.intro (fun _ => hq) (fun q => absurd rfl q)
theorem c0_rate {x y : Int32} (h : σ.1 98 17 = 0) (h7 : σ.1 98 27 = 0) (hq : Q (some (.int 0)) (uI σ 98 0 1)) : MW l G (d + 2) mX12_rate [.ref 98, .int x, .int y] σ Q := by
  have e7 : uI σ 98 27 0 = σ := uI_id h7
  refine vX12_rate [] 60 ?_
  refine c_isNode0 (by rw [e7]; exact h) ?_
  rw [e7]
  refine And.intro (fun _ => ?_) (fun q => absurd rfl q)
  exact brle (1 : Int) 0 (fun z => by omega) (fun _ => hq) (hx := by rw [uI_at]; rfl)
theorem k0_years {y : Int32} {x : Int64} (h : σ.1 1 1 = 0) (hq : Q (some (.int (-1))) σ) : MW l G (d + 2) mX11_years [.ref 0, .int y, .long x] σ Q := by
  refine vX11_years [] 60 ?_
  refine k_noLoan 0 h (by omega) ?_
  exact brz _ (fun q => absurd rfl q) (fun _ => hq)
theorem c0_years {y : Int32} {x : Int64} (h : σ.1 98 17 = 0) (hq : Q (some (.int (-1))) (uI σ 98 0 0)) : MW l G (d + 2) mX12_years [.ref 98, .int y, .long x] σ Q := by
  have h' : (uI σ 98 0 0).1 98 17 = 0 := by rw [uI_ne (Or.inr (by decide))]; exact h
  refine vX12_years [] 60 ?_
  exact And.intro (fun _ => hq) (fun q => absurd h' q)
variable {S : Sc}
theorem k0_run {x y : Int32} (s : Int) (hS : SK σ S) (rs : R31 s) (h : σ.1 1 1 = 0) (hq : Q (some (.int (-1000000))) σ) (ex : x = jI s := by first | rfl | assumption | (simp only [jlit, jneg, jadd, jsub, jmul]; done) | (simp only [jlit, jneg, jadd, jsub, jmul]; congr 1 <;> omega) | (congr 1 <;> omega)) : MW l G (d + 2) mX11_run [.ref 0, .int x, .int y] σ Q := by
  refine vX11_run [] 60 ?_
  refine k_has s hS rs ?_
  refine brz _ (fun _ => hq) (fun _ => ?_)
  refine k_noLoan 0 h (by omega) ?_
  exact brz _ (fun q => absurd rfl q) (fun _ => hq)
theorem c0_run {x y : Int32} (s : Int) (hS : SM σ S) (rs : R31 s) (h : σ.1 98 17 = 0) (hq : Q (some (.int (-1000000))) (uI σ 98 0 0)) (ex : x = jI s := by first | rfl | assumption | (simp only [jlit, jneg, jadd, jsub, jmul]; done) | (simp only [jlit, jneg, jadd, jsub, jmul]; congr 1 <;> omega) | (congr 1 <;> omega)) : MW l G (d + 2) mX12_run [.ref 98, .int x, .int y] σ Q := by
  have h' : (uI σ 98 0 0).1 98 17 = 0 := by rw [uI_ne (Or.inr (by decide))]; exact h
  have S0 : SM (uI σ 98 0 0) S := hS.fr (by rw [uI_ne (Or.inr (by decide))]) (by rw [uI_n (by decide)]) (by rw [uI_n (by decide)])
  refine vX12_run [] 60 ?_
  refine c_isScript s S0 rs ?_
  refine brz _ (fun _ => hq) (fun _ => ?_)
  exact And.intro (fun _ => hq) (fun q => absurd h' q)
theorem k0_perform {x : Int32} (s : Int) (hS : SK σ S) (rs : R31 s) (h : σ.1 1 1 = 0) (hq : Q (some (.int (-1))) σ) (ex : x = jI s := by first | rfl | assumption | (simp only [jlit, jneg, jadd, jsub, jmul]; done) | (simp only [jlit, jneg, jadd, jsub, jmul]; congr 1 <;> omega) | (congr 1 <;> omega)) : MW l G (d + 2) mX11_perform [.ref 0, .int x] σ Q := by
  refine vX11_perform [] 60 ?_
  refine k_has s hS rs ?_
  refine brz _ (fun _ => hq) (fun _ => ?_)
  refine k_noLoan 0 h (by omega) ?_
  exact brz _ (fun q => absurd rfl q) (fun _ => hq)
theorem c0_perform {x : Int32} (s : Int) (hS : SM σ S) (rs : R31 s) (h : σ.1 98 17 = 0) (hq : Q (some (.int (-1))) (uI σ 98 0 0)) (ex : x = jI s := by first | rfl | assumption | (simp only [jlit, jneg, jadd, jsub, jmul]; done) | (simp only [jlit, jneg, jadd, jsub, jmul]; congr 1 <;> omega) | (congr 1 <;> omega)) : MW l G (d + 2) mX12_perform [.ref 98, .int x] σ Q := by
  have h' : (uI σ 98 0 0).1 98 17 = 0 := by rw [uI_ne (Or.inr (by decide))]; exact h
  have S0 : SM (uI σ 98 0 0) S := hS.fr (by rw [uI_ne (Or.inr (by decide))]) (by rw [uI_n (by decide)]) (by rw [uI_n (by decide)])
  refine vX12_perform [] 60 ?_
  refine c_isScript s S0 rs ?_
  refine brz _ (fun _ => hq) (fun _ => ?_)
  exact And.intro (fun _ => hq) (fun q => absurd h' q)
end No
