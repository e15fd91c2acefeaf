/-! ===== the start ===== -/
theorem zi7 : ∀ j, j < 7 → zgI zw0 (1 + 7) j = zgI zm0 1 (5 + j) := by decide +kernel
theorem s_init : zRel zw0 zm0 := by
  refine ⟨⟨0, ?_, fun h => absurd h (by omega), ⟨0, by omega, by decide +kernel⟩, 0, fun _ => 0, by omega, by decide +kernel, by decide +kernel, by decide +kernel, fun i hi => absurd hi (by omega), ?_⟩, ⟨by decide +kernel, Or.inl (by decide +kernel)⟩, ⟨0, by omega, by decide +kernel, by decide +kernel, fun j hj => absurd hj (by omega)⟩, ?_, ?_, ⟨0, by omega, by decide +kernel, by decide +kernel, fun j hj => absurd hj (by omega)⟩, ⟨fun _ _ => rfl, fun _ _ => rfl⟩, by decide +kernel, by decide +kernel⟩
  · unfold zWal
    refine ⟨by decide, by omega, by decide +kernel, by decide +kernel, by decide +kernel, by decide +kernel, by decide +kernel, by decide +kernel, zi7, by decide +kernel, Or.inl (by decide +kernel), ⟨10, by omega, by decide +kernel⟩, ?_, ?_, ?_, ?_, ?_, ?_, ?_, ?_, ?_, ?_, ?_, fun _ _ _ => rfl, fun _ _ => rfl, fun _ _ _ => rfl, rfl, fun _ _ _ => rfl, rfl, id⟩
    all_goals (intro r hr; exact absurd hr (by omega))
  · intro k hk
    refine Or.inl ⟨?_, fun i hi => absurd hi (by omega)⟩
    rcases (show k = 0 ∨ k = 1 ∨ k = 2 by omega) with rfl | rfl | rfl <;> decide +kernel
  · intro i hi
    rcases (show i = 0 ∨ i = 1 ∨ i = 2 ∨ i = 3 by omega) with rfl | rfl | rfl | rfl
    all_goals exact ⟨by decide +kernel, Or.inl (by decide +kernel), by decide +kernel, ⟨0, by omega, by decide +kernel⟩, by decide +kernel⟩
  · intro i hi
    rcases (show i = 0 ∨ i = 1 ∨ i = 2 ∨ i = 3 ∨ i = 4 by omega) with rfl | rfl | rfl | rfl | rfl
    all_goals exact ⟨by decide +kernel, Or.inl (by decide +kernel)⟩
