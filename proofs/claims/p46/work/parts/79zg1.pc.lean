/-! Out of whole's part 79zg1.pc, by wip/p46/extract.py. -/
theorem pc_or2 : ∀ a, a < 256 → ∀ b, b < 256 → a &&& b = 0 → pc (a ||| b) = pc a + pc b := by decide +kernel
theorem pc_wo : ∀ e, e < 8 → ∀ k, k < 256 → pc (wo e k) + (k.testBit e).toNat = pc k := by decide +kernel
theorem wo_l : ∀ n, n < 9 → ∀ e, e < n → ∀ k, k < 2 ^ n → wo e k < 2 ^ (n - 1) := by decide +kernel
theorem pc_al : ∀ n, n < 9 → ∀ k, k < 2 ^ n → pc (al n ^^^ k) + pc k = n := by decide +kernel
theorem pc_sh2 : ∀ n, n < 9 → ∀ a, a < 2 ^ n → ∀ b, b < 2 ^ (8 - n) → pc (a ||| b * 2 ^ n) = pc a + pc b := by decide +kernel
theorem pc_y : ∀ j, j < 256 → ∀ e, e < 8 → j.testBit e = false → pc (j ^^^ 2 ^ e) = pc j + 1 := by decide +kernel
