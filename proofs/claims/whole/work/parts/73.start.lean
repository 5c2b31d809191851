/-! the start is tied -/
theorem nf_inv0 : iv_I nf_M0 := by
  have hz : (0 : Int32) = zI (0 : Nat) := by decide
  refine ⟨0, fun _ => 0, 0, fun _ => 0, fun _ => (-1, 0, 0, 0), ⟨by omega, fun i hi => absurd hi (Nat.not_lt_zero _)⟩, ⟨hz, fun i hi => absurd hi (Nat.not_lt_zero _)⟩, ⟨hz, fun i hi => absurd hi (Nat.not_lt_zero _)⟩, ⟨by omega, fun i hi => absurd hi (Nat.not_lt_zero _)⟩, ⟨hz, fun i hi => absurd hi (Nat.not_lt_zero _)⟩, ⟨hz, fun i hi => absurd hi (Nat.not_lt_zero _)⟩, fun r hr => ⟨Or.inl rfl, ?_, rfl⟩⟩
  rcases (show r = 0 ∨ r = 1 ∨ r = 2 ∨ r = 3 ∨ r = 4 ∨ r = 5 ∨ r = 6 ∨ r = 7 by omega) with rfl | rfl | rfl | rfl | rfl | rfl | rfl | rfl
  all_goals rfl
