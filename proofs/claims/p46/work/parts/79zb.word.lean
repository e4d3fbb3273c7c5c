/-! Out of whole's part 79zb.word, by wip/p46/extract.py. -/
theorem WD_inj : ∀ a, a < 14 → ∀ b, b < 14 → WD a = WD b → a = b := by decide
