/-! Out of whole's part 76.next, by wip/p46/extract.py. -/
def D (n i : Nat) (σ : Nat → Nat) : Prop := ∀ a b, i ≤ a → a < b → b < n → σ b < σ a
