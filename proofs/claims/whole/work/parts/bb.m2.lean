-- the beginning
def m0 : Mm := (fun _ _ => 0, fun _ _ => 0)
def W0z : Wk := (fun _ => 0, fun _ => 0, fun _ _ => 0, fun _ _ => 0)
def X0 : Xw := ((0, fun _ => 0), (0, fun _ => 0, fun _ => 0), fun _ => 0, none, H0 W0z, none)
theorem KS_0 : KS m0 X0 := by
  refine ⟨⟨by show 0 ≤ 320; omega, rfl, fun j hj => absurd hj (by show ¬ j < 0; omega)⟩, ⟨⟨by show 0 ≤ 4; omega, fun s hs => absurd hs (by show ¬ s < 0; omega), fun s i w hs => absurd hs (by show ¬ s < 0; omega), fun s i hs => absurd hs (by show ¬ s < 0; omega)⟩, rfl, fun s hs => absurd hs (by show ¬ s < 0; omega), fun s i w hs => absurd hs (by show ¬ s < 0; omega)⟩, fun _ _ => rfl, ?_, rfl, rfl⟩
  exact ⟨0, by omega, rfl, rfl, rfl, by show 0 ≤ 40; omega, by show 0 ≤ 0; omega, fun j hj => absurd hj (by show ¬ j < 0; omega), fun p q hp => absurd hp (by show ¬ p < 0; omega)⟩
theorem MS_0 : MS m0 X0 := by
  refine ⟨⟨by show 0 ≤ 320; omega, rfl, fun j hj => absurd hj (by show ¬ j < 0; omega)⟩, ⟨⟨by show 0 ≤ 4; omega, fun s hs => absurd hs (by show ¬ s < 0; omega), fun s i w hs => absurd hs (by show ¬ s < 0; omega), fun s i hs => absurd hs (by show ¬ s < 0; omega)⟩, rfl, fun s hs => absurd hs (by show ¬ s < 0; omega), fun s i w hs => absurd hs (by show ¬ s < 0; omega)⟩, fun _ _ => rfl, rfl, ?_⟩
  exact ⟨rfl, rfl, rfl, rfl, 0, by omega, rfl⟩
theorem XI_0 : XI 0 X0 := ⟨rfl, rfl, rfl⟩
