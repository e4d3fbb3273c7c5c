/-! Out of whole's part 79z.ref, by wip/p46/extract.py. -/
theorem wp_b3 {α α2 α3 γ : Type} {x : Option (α × α2 × α3)} {f : α → α2 → α3 → Option γ} {Q : γ → Prop} (h : wp x (fun a => wp (f a.1 a.2.1 a.2.2) Q)) : wp (o_b3 x f) Q := by
  obtain ⟨a, rfl, h⟩ := h
  exact h
abbrev MT2 := Nat × Nat × (Nat → Int32)
