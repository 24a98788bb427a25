/-! the two fresh states are alike -/
theorem hr0_dec : ∀ f, f < 11 → ∀ i, i < 40 → (decide (f = 0 ∧ 10 ≤ i ∧ i ≤ 14) || decide (1 ≤ f ∧ f ≤ 10 ∧ i < lnH f)) = true → hM0 1 (ix f i) = hX0 (1 + f) i ∧ loH f i ≤ (hX0 (1 + f) i).toInt ∧ (hX0 (1 + f) i).toInt ≤ hiH f i := by decide +kernel
theorem hi0_v : ∀ v, v < 4 → (hX0 9 v).toInt ≤ (hX0 1 12).toInt := by decide +kernel
theorem hi0_h : ∀ s, s < 10 → (hX0 11 s).toInt < (hX0 1 10).toInt := by decide +kernel
theorem R0 : R hX0 hM0 := by
  refine ⟨fun f i v => (hr0_dec f (vl_b v).1 i (vl_b v).2 ((vl_dec f i).mp v)).1, ⟨fun f i v => (hr0_dec f (vl_b v).1 i (vl_b v).2 ((vl_dec f i).mp v)).2, hi0_v, fun v p _ _ _ => rfl, hi0_h⟩, ⟨rfl, Or.inl rfl⟩, ⟨rfl, by decide, by decide, fun i hi => ?_⟩, fun s hs => ?_, ⟨fun i _ => ?_, by decide +kernel⟩⟩
  · have : (hM0 0 10).toInt = 0 := by decide
    omega
  · rcases (show s = 0 ∨ s = 1 ∨ s = 2 ∨ s = 3 by omega) with rfl | rfl | rfl | rfl
    · exact ⟨rfl, rfl, Or.inl rfl, by decide, by decide, fun _ _ => rfl⟩
    · exact ⟨rfl, rfl, Or.inl rfl, by decide, by decide, fun _ _ => rfl⟩
    · exact ⟨rfl, rfl, Or.inl rfl, by decide, by decide, fun _ _ => rfl⟩
    · exact ⟨rfl, rfl, Or.inl rfl, by decide, by decide, fun _ _ => rfl⟩
  · rfl
