/-! Out of whole's part 79k.raise, by wip/p46/extract.py. -/
theorem cdt_lt {V : Nat → Int32} {n r j k : Nat} {z : Int32} {w : Bool} (hW : WF n r V) (h : cdt V w n k j z) (hk : k ≤ 256) : j < 2 ^ n := by
  obtain ⟨b, e, h1, h2, h3, h4, rfl, h6⟩ := h
  exact Nat.xor_lt_two_pow (hW.2.2.2.2.1 b (by omega) h2).1 (Nat.pow_lt_pow_right (by decide) h3)
