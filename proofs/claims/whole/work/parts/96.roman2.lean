/-! Roman hundreds and thousands -/
theorem r4_3 : ∀ b : Bool, ∀ c, c < 10 → ∀ e, e < 100 → r4 b 1 (100 * c + e) = (mD b 2 c, e) := by decide +kernel
