/-! Out of whole's part 46.game, by wip/p46/extract.py. -/
theorem or_gt : ∀ k, k < 256 → ∀ e, e < 8 → k.testBit e = false → k < k ||| 2 ^ e := by decide +kernel
theorem not_tb {k e : Nat} (h : ¬ k.testBit e = true) : k.testBit e = false := by
  cases c : k.testBit e
  · rfl
  · exact absurd c h
