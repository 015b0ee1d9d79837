-- acts over the whole state
section XA
variable {l : Launch} {G : GT} {d N : Nat} {σ : Mm} {Q : Po} {X : Xw}
theorem kx_up (hN : N < 900000) (hK : KS σ X) (hX : XI N X) (hq : ∀ τ, KF σ τ → KS τ (xAct X 0 0 0 0).2 → Q (some (.int (jI (xAct X 0 0 0 0).1))) τ) : MW l G (d + 53) mX11_up [.ref 0] σ Q := by
  refine vX11_up [] 30 ?_
  exact kx_act 0 0 0 0 hN hK hX (by omega) (by omega) (by omega) (by omega) (fun τ a b => hq τ a b) rfl rfl rfl rfl
theorem cx_up (hM : MS σ X) (hX : XI N X) (hq : ∀ τ, LF σ τ → MS τ (xAct X 0 0 0 0).2 → Q (some (.int (jI (xAct X 0 0 0 0).1))) τ) : MW l G (d + 53) mX12_up [.ref 98] σ Q := by
  refine vX12_up [] 30 ?_
  exact cx_act 0 0 0 0 hM hX (by omega) (by omega) (by omega) (by omega) (fun τ a b => hq τ a b) rfl rfl rfl rfl
theorem kx_down (hN : N < 900000) (hK : KS σ X) (hX : XI N X) (hq : ∀ τ, KF σ τ → KS τ (xAct X 1 0 0 0).2 → Q (some (.int (jI (xAct X 1 0 0 0).1))) τ) : MW l G (d + 53) mX11_down [.ref 0] σ Q := by
  refine vX11_down [] 30 ?_
  exact kx_act 1 0 0 0 hN hK hX (by omega) (by omega) (by omega) (by omega) (fun τ a b => hq τ a b) rfl rfl rfl rfl
theorem cx_down (hM : MS σ X) (hX : XI N X) (hq : ∀ τ, LF σ τ → MS τ (xAct X 1 0 0 0).2 → Q (some (.int (jI (xAct X 1 0 0 0).1))) τ) : MW l G (d + 53) mX12_down [.ref 98] σ Q := by
  refine vX12_down [] 30 ?_
  exact cx_act 1 0 0 0 hM hX (by omega) (by omega) (by omega) (by omega) (fun τ a b => hq τ a b) rfl rfl rfl rfl
theorem kx_call (hN : N < 900000) (hK : KS σ X) (hX : XI N X) (hq : ∀ τ, KF σ τ → KS τ (xAct X 2 0 0 0).2 → Q (some (.int (jI (xAct X 2 0 0 0).1))) τ) : MW l G (d + 53) mX11_call [.ref 0] σ Q := by
  refine vX11_call [] 30 ?_
  exact kx_act 2 0 0 0 hN hK hX (by omega) (by omega) (by omega) (by omega) (fun τ a b => hq τ a b) rfl rfl rfl rfl
theorem cx_call (hM : MS σ X) (hX : XI N X) (hq : ∀ τ, LF σ τ → MS τ (xAct X 2 0 0 0).2 → Q (some (.int (jI (xAct X 2 0 0 0).1))) τ) : MW l G (d + 53) mX12_call [.ref 98] σ Q := by
  refine vX12_call [] 30 ?_
  exact cx_act 2 0 0 0 hM hX (by omega) (by omega) (by omega) (by omega) (fun τ a b => hq τ a b) rfl rfl rfl rfl
theorem kx_refund (hN : N < 900000) (hK : KS σ X) (hX : XI N X) (hq : ∀ τ, KF σ τ → KS τ (xAct X 3 0 0 0).2 → Q (some (.int (jI (xAct X 3 0 0 0).1))) τ) : MW l G (d + 53) mX11_refund [.ref 0] σ Q := by
  refine vX11_refund [] 30 ?_
  exact kx_act 3 0 0 0 hN hK hX (by omega) (by omega) (by omega) (by omega) (fun τ a b => hq τ a b) rfl rfl rfl rfl
theorem cx_refund (hM : MS σ X) (hX : XI N X) (hq : ∀ τ, LF σ τ → MS τ (xAct X 3 0 0 0).2 → Q (some (.int (jI (xAct X 3 0 0 0).1))) τ) : MW l G (d + 53) mX12_refund [.ref 98] σ Q := by
  refine vX12_refund [] 30 ?_
  exact cx_act 3 0 0 0 hM hX (by omega) (by omega) (by omega) (by omega) (fun τ a b => hq τ a b) rfl rfl rfl rfl
theorem kx_withdraw (hN : N < 900000) (hK : KS σ X) (hX : XI N X) (hq : ∀ τ, KF σ τ → KS τ (xAct X 4 0 0 0).2 → Q (some (.int (jI (xAct X 4 0 0 0).1))) τ) : MW l G (d + 53) mX11_withdraw [.ref 0] σ Q := by
  refine vX11_withdraw [] 30 ?_
  exact kx_act 4 0 0 0 hN hK hX (by omega) (by omega) (by omega) (by omega) (fun τ a b => hq τ a b) rfl rfl rfl rfl
theorem cx_withdraw (hM : MS σ X) (hX : XI N X) (hq : ∀ τ, LF σ τ → MS τ (xAct X 4 0 0 0).2 → Q (some (.int (jI (xAct X 4 0 0 0).1))) τ) : MW l G (d + 53) mX12_withdraw [.ref 98] σ Q := by
  refine vX12_withdraw [] 30 ?_
  exact cx_act 4 0 0 0 hM hX (by omega) (by omega) (by omega) (by omega) (fun τ a b => hq τ a b) rfl rfl rfl rfl
theorem kx_instal {x y : Int32} (hN : N < 900000) (hK : KS σ X) (hX : XI N X) (hq : ∀ τ, KF σ τ → KS τ (xAct X 5 x.toInt y.toInt 0).2 → Q (some (.int (jI (xAct X 5 x.toInt y.toInt 0).1))) τ) : MW l G (d + 53) mX11_instal [.ref 0, .int x, .int y] σ Q := by
  refine vX11_instal [] 30 ?_
  exact kx_act 5 x.toInt y.toInt 0 hN hK hX (by omega) (jI_R x) (jI_R y) (by omega) (fun τ a b => hq τ a b) rfl (jI_of x).symm (jI_of y).symm rfl
theorem cx_instal {x y : Int32} (hM : MS σ X) (hX : XI N X) (hq : ∀ τ, LF σ τ → MS τ (xAct X 5 x.toInt y.toInt 0).2 → Q (some (.int (jI (xAct X 5 x.toInt y.toInt 0).1))) τ) : MW l G (d + 53) mX12_instal [.ref 98, .int x, .int y] σ Q := by
  refine vX12_instal [] 30 ?_
  exact cx_act 5 x.toInt y.toInt 0 hM hX (by omega) (jI_R x) (jI_R y) (by omega) (fun τ a b => hq τ a b) rfl (jI_of x).symm (jI_of y).symm rfl
theorem kx_tell {x y z : Int32} (hN : N < 900000) (hK : KS σ X) (hX : XI N X) (hq : ∀ τ, KF σ τ → KS τ (xAct X 6 x.toInt y.toInt z.toInt).2 → Q (some (.int (jI (xAct X 6 x.toInt y.toInt z.toInt).1))) τ) : MW l G (d + 53) mX11_tell [.ref 0, .int x, .int y, .int z] σ Q := by
  refine vX11_tell [] 30 ?_
  exact kx_act 6 x.toInt y.toInt z.toInt hN hK hX (by omega) (jI_R x) (jI_R y) (jI_R z) (fun τ a b => hq τ a b) rfl (jI_of x).symm (jI_of y).symm (jI_of z).symm
theorem cx_tell {x y z : Int32} (hM : MS σ X) (hX : XI N X) (hq : ∀ τ, LF σ τ → MS τ (xAct X 6 x.toInt y.toInt z.toInt).2 → Q (some (.int (jI (xAct X 6 x.toInt y.toInt z.toInt).1))) τ) : MW l G (d + 53) mX12_tell [.ref 98, .int x, .int y, .int z] σ Q := by
  refine vX12_tell [] 30 ?_
  exact cx_act 6 x.toInt y.toInt z.toInt hM hX (by omega) (jI_R x) (jI_R y) (jI_R z) (fun τ a b => hq τ a b) rfl (jI_of x).symm (jI_of y).symm (jI_of z).symm
theorem kx_doBest (hN : N < 900000) (hK : KS σ X) (hX : XI N X) (hq : ∀ τ, KF σ τ → KS τ (xAct X 7 0 0 0).2 → Q (some (.int (jI (xAct X 7 0 0 0).1))) τ) : MW l G (d + 53) mX11_doBest [.ref 0] σ Q := by
  refine vX11_doBest [] 30 ?_
  exact kx_act 7 0 0 0 hN hK hX (by omega) (by omega) (by omega) (by omega) (fun τ a b => hq τ a b) rfl rfl rfl rfl
theorem cx_doBest (hM : MS σ X) (hX : XI N X) (hq : ∀ τ, LF σ τ → MS τ (xAct X 7 0 0 0).2 → Q (some (.int (jI (xAct X 7 0 0 0).1))) τ) : MW l G (d + 53) mX12_doBest [.ref 98] σ Q := by
  refine vX12_doBest [] 30 ?_
  exact cx_act 7 0 0 0 hM hX (by omega) (by omega) (by omega) (by omega) (fun τ a b => hq τ a b) rfl rfl rfl rfl
theorem kx_adopt (hN : N < 900000) (hK : KS σ X) (hX : XI N X) (hq : ∀ τ, KF σ τ → KS τ (xAct X 8 0 0 0).2 → Q (some (.int (jI (xAct X 8 0 0 0).1))) τ) : MW l G (d + 53) mX11_adopt [.ref 0] σ Q := by
  refine vX11_adopt [] 30 ?_
  exact kx_act 8 0 0 0 hN hK hX (by omega) (by omega) (by omega) (by omega) (fun τ a b => hq τ a b) rfl rfl rfl rfl
theorem cx_adopt (hM : MS σ X) (hX : XI N X) (hq : ∀ τ, LF σ τ → MS τ (xAct X 8 0 0 0).2 → Q (some (.int (jI (xAct X 8 0 0 0).1))) τ) : MW l G (d + 53) mX12_adopt [.ref 98] σ Q := by
  refine vX12_adopt [] 30 ?_
  exact cx_act 8 0 0 0 hM hX (by omega) (by omega) (by omega) (by omega) (fun τ a b => hq τ a b) rfl rfl rfl rfl
theorem kx_follow (hN : N < 900000) (hK : KS σ X) (hX : XI N X) (hq : ∀ τ, KF σ τ → KS τ (xAct X 9 0 0 0).2 → Q (some (.int (jI (xAct X 9 0 0 0).1))) τ) : MW l G (d + 53) mX11_follow [.ref 0] σ Q := by
  refine vX11_follow [] 30 ?_
  exact kx_act 9 0 0 0 hN hK hX (by omega) (by omega) (by omega) (by omega) (fun τ a b => hq τ a b) rfl rfl rfl rfl
theorem cx_follow (hM : MS σ X) (hX : XI N X) (hq : ∀ τ, LF σ τ → MS τ (xAct X 9 0 0 0).2 → Q (some (.int (jI (xAct X 9 0 0 0).1))) τ) : MW l G (d + 53) mX12_follow [.ref 98] σ Q := by
  refine vX12_follow [] 30 ?_
  exact cx_act 9 0 0 0 hM hX (by omega) (by omega) (by omega) (by omega) (fun τ a b => hq τ a b) rfl rfl rfl rfl
theorem cx_thrown (hq : Q (some (.int (σ.1 98 0))) σ) : MW l G (d + 53) mX12_thrown [.ref 98] σ Q := by
  refine vX12_thrown [] 30 ?_
  exact hq
theorem cx_rate {x y : Int32} (hM : MS σ X) (hX : XI N X) (hq : ∀ τ, LF σ τ → τ.2 122 = σ.2 122 → MS τ X → τ.1 98 0 = xQ X 1 (fun ru _ => if isN ru x.toInt y.toInt then 0 else 1) → Q (some (.int (xQ X 0 (fun ru W => jI (aRate ru W x.toInt y.toInt))))) τ) : MW l G (d + 53) mX12_rate [.ref 98, .int x, .int y] σ Q := by
  cases ho : X.o with
  | none =>
    rw [xQ_n ho, xQ_n ho] at hq
    exact c0_rate (hM.no ho).1 hM.2.2.2.1 (hq _ LF.th rfl hM.th (uI_at _ _ _ _))
  | some ru =>
    rw [xQ_s ho, xQ_s ho] at hq
    exact c_rate x.toInt y.toInt (hM.rm hX ho) (jI_R x) (jI_R y) (fun τ F h => hq τ F.mf (F.2.1 122 (by decide)) (hM.qf F) h) (jI_of x).symm (jI_of y).symm
end XA
