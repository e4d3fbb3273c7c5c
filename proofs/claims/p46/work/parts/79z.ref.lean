/-! Out of whole's part 79z.ref, by wip/p46/extract.py. -/
theorem wp_b3 {α α2 α3 γ : Type} {x : Option (α × α2 × α3)} {f : α → α2 → α3 → Option γ} {Q : γ → Prop} (h : wp x (fun a => wp (f a.1 a.2.1 a.2.2) Q)) : wp (o_b3 x f) Q := by
  obtain ⟨a, rfl, h⟩ := h
  exact h
theorem wp_s4 {α α2 α3 α4 γ : Type} {x : Option (α ⊕ α2 ⊕ α3 ⊕ α4)} {f : α → Option γ} {f2 : α2 → Option γ} {f3 : α3 → Option γ} {f4 : α4 → Option γ} {Q : γ → Prop} (h : wp x (lq (fun a => wp (f a) Q) (lq (fun a => wp (f2 a) Q) (lq (fun a => wp (f3 a) Q) (fun a => wp (f4 a) Q))))) : wp (o_s4 x f f2 f3 f4) Q := by
  obtain ⟨a, rfl, h⟩ := h
  rcases a with a | a | a | a
  · exact h
  · exact h
  · exact h
  · exact h
abbrev MT2 := Nat × Nat × (Nat → Int32)
