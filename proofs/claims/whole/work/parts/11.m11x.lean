/-! Loops with four ends. -/
def o_s4 {α α2 α3 α4 γ : Type} (x : Option (α ⊕ α2 ⊕ α3 ⊕ α4)) (f : α → Option γ) (f2 : α2 → Option γ) (f3 : α3 → Option γ) (f4 : α4 → Option γ) : Option γ := match x with
  | some (.inl a) => f a
  | some (.inr (.inl a)) => f2 a
  | some (.inr (.inr (.inl a))) => f3 a
  | some (.inr (.inr (.inr a))) => f4 a
  | none => none
theorem o_s4E {α α2 α3 α4 γ : Type} {x : Option (α ⊕ α2 ⊕ α3 ⊕ α4)} {f : α → Option γ} {f2 : α2 → Option γ} {f3 : α3 → Option γ} {f4 : α4 → Option γ} {r : γ} (h : o_s4 x f f2 f3 f4 = some r) : ∃ q, x = some q ∧ (∀ a, q = .inl a → f a = some r) ∧ (∀ a, q = .inr (.inl a) → f2 a = some r) ∧ (∀ a, q = .inr (.inr (.inl a)) → f3 a = some r) ∧ (∀ a, q = .inr (.inr (.inr a)) → f4 a = some r) := by
  match x, h with
  | some (.inl a), h => exact ⟨_, rfl, fun b e => (by cases e; exact h), fun b e => (by cases e), fun b e => (by cases e), fun b e => (by cases e)⟩
  | some (.inr (.inl a)), h => exact ⟨_, rfl, fun b e => (by cases e), fun b e => (by cases e; exact h), fun b e => (by cases e), fun b e => (by cases e)⟩
  | some (.inr (.inr (.inl a))), h => exact ⟨_, rfl, fun b e => (by cases e), fun b e => (by cases e), fun b e => (by cases e; exact h), fun b e => (by cases e)⟩
  | some (.inr (.inr (.inr a))), h => exact ⟨_, rfl, fun b e => (by cases e), fun b e => (by cases e), fun b e => (by cases e), fun b e => (by cases e; exact h)⟩
  | none, h => cases h
