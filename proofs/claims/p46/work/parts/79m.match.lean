/-! Out of whole's part 79m.match, by wip/p46/extract.py. -/
theorem pc_x : ∀ j, j < 256 → ∀ e, e < 8 → j.testBit e = true → pc (j ^^^ 2 ^ e) + 1 = pc j := by decide +kernel
