/-! bits in a set and in a larger one -/
theorem pop_mono : ∀ a < 256, ∀ b < 256, a &&& b = a → pop a ≤ pop b := by decide +kernel
theorem pop_full : ∀ a < 256, 8 ≤ pop a → a = 255 := by decide +kernel
