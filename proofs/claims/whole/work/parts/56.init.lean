/-! new objects -/
theorem rel_init : Rel MX0 MM0 := by
  refine ⟨⟨rfl, rfl, rfl, rfl, fun f _ _ => ?_⟩, fun r hr => Or.inl ?_, fun r hr => Or.inl ?_, 0, 0, 0, ⟨Or.inl rfl, by omega, rfl, rfl, fun p hp => absurd hp (by omega)⟩, ⟨by omega, rfl, rfl, fun i hi => absurd hi (by omega)⟩, ⟨by omega, rfl, rfl, fun n hn => absurd hn (by omega)⟩, fun k hk => Or.inl ?_⟩
  · have e1 : MX0 76 = fun _ => 0 := rfl
    have e2 : MM0 107 = fun _ => 0 := rfl
    rw [e1, e2]
  · rcases (show r = 0 ∨ r = 1 ∨ r = 2 ∨ r = 3 ∨ r = 4 ∨ r = 5 by omega) with rfl | rfl | rfl | rfl | rfl | rfl <;> exact ⟨rfl, rfl⟩
  · rcases (show r = 0 ∨ r = 1 ∨ r = 2 ∨ r = 3 by omega) with rfl | rfl | rfl | rfl <;> exact ⟨rfl, rfl⟩
  · rcases (show k = 0 ∨ k = 1 ∨ k = 2 by omega) with rfl | rfl | rfl <;> exact ⟨rfl, by decide +kernel⟩
