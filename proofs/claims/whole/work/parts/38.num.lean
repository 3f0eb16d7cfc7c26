theorem nan32 : ∀ a, a < 41 → ∀ b, b < 41 → 0 < b → wnn32 (FP.fdiv (FP.i2f (nI a)) (FP.i2f (nI b))) = true := by decide +kernel
theorem nan64 : ∀ b, b < 21 → 0 < b → ∀ a, a < 541 → wnn64 (FP.ddiv (FP.i2d (nI a)) (FP.i2d (nI b))) = true := by decide +kernel
