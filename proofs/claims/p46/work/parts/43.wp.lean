/-! Out of whole's part 43.wp, by wip/p46/extract.py. -/
def wp {α : Type} (x : Option α) (Q : α → Prop) : Prop := ∃ a, x = some a ∧ Q a
theorem wp_s {α : Type} {a : α} {Q : α → Prop} : wp (some a) Q = Q a := propext ⟨fun ⟨b, h, hq⟩ => (by cases h; exact hq), fun h => ⟨a, rfl, h⟩⟩
theorem wp_b1 {α γ : Type} {x : Option α} {f : α → Option γ} {Q : γ → Prop} (h : wp x (fun a => wp (f a) Q)) : wp (o_b1 x f) Q := by
  obtain ⟨a, rfl, h⟩ := h
  exact h
theorem wp_b2 {α α2 γ : Type} {x : Option (α × α2)} {f : α → α2 → Option γ} {Q : γ → Prop} (h : wp x (fun a => wp (f a.1 a.2) Q)) : wp (o_b2 x f) Q := by
  obtain ⟨a, rfl, h⟩ := h
  exact h
theorem wp_s1 {α γ : Type} {x : Option α} {f : α → Option γ} {Q : γ → Prop} (h : wp x (fun a => wp (f a) Q)) : wp (o_s1 x f) Q := by
  obtain ⟨a, rfl, h⟩ := h
  exact h
def lq {α β : Type} (P : α → Prop) (Q : β → Prop) : α ⊕ β → Prop
  | .inl a => P a
  | .inr b => Q b
theorem lq_l {α β : Type} {P : α → Prop} {Q : β → Prop} {a : α} : lq P Q (.inl a) = P a := rfl
theorem lq_r {α β : Type} {P : α → Prop} {Q : β → Prop} {b : β} : lq P Q (.inr b) = Q b := rfl
theorem wp_s2 {α α2 γ : Type} {x : Option (α ⊕ α2)} {f : α → Option γ} {g : α2 → Option γ} {Q : γ → Prop} (h : wp x (lq (fun a => wp (f a) Q) (fun b => wp (g b) Q))) : wp (o_s2 x f g) Q := by
  obtain ⟨a, rfl, h⟩ := h
  cases a with
  | inl a => exact h
  | inr a => exact h
theorem wp_mono {α : Type} {x : Option α} {Q R : α → Prop} (h : wp x Q) (h2 : ∀ a, Q a → R a) : wp x R := by
  obtain ⟨a, e, h⟩ := h
  exact ⟨a, e, h2 a h⟩
/-- a loop, by an invariant over its turns -/
theorem wp_lpn {σ ρ : Type} {b : σ → Option (σ ⊕ ρ)} {Q : ρ → Prop} (P : Nat → σ → Prop) (N : Nat)
    (hs : ∀ i s, i < N → P i s → wp (b s) (lq (P (i + 1)) Q)) (he : ∀ s, P N s → wp (b s) (lq (fun _ => False) Q)) : ∀ (n i : Nat) (s : σ) (fuel : Nat), i + n = N → P i s → n < fuel → wp (lp b fuel s) Q
  | 0, i, s, fuel, hi, hp, hf => by
    obtain ⟨f, rfl⟩ : ∃ f, fuel = f + 1 := ⟨fuel - 1, by omega⟩
    obtain rfl : i = N := by omega
    obtain ⟨a, e, h⟩ := he s hp
    cases a with
    | inl a => exact h.elim
    | inr r => exact ⟨r, lp_out e, h⟩
  | n + 1, i, s, fuel, hi, hp, hf => by
    obtain ⟨f, rfl⟩ : ∃ f, fuel = f + 1 := ⟨fuel - 1, by omega⟩
    obtain ⟨a, e, h⟩ := hs i s (by omega) hp
    cases a with
    | inl a =>
      rw [lp_in e]
      exact wp_lpn P N hs he n (i + 1) a f (by omega) h (by omega)
    | inr r => exact ⟨r, lp_out e, h⟩
theorem wp_lp {σ ρ : Type} {b : σ → Option (σ ⊕ ρ)} {Q : ρ → Prop} {s0 : σ} (P : Nat → σ → Prop) (i0 N : Nat) (hi : i0 ≤ N) (hN : N < 2000000) (h0 : P i0 s0)
    (hs : ∀ i s, i < N → P i s → wp (b s) (lq (P (i + 1)) Q)) (he : ∀ s, P N s → wp (b s) (lq (fun _ => False) Q)) : wp (lp b o_N s0) Q :=
  wp_lpn P N hs he (N - i0) i0 s0 o_N (by omega) h0 (by show N - i0 < 2000000; omega)
/-- a yes or no -/
def yn (p : Prop) (r : Int32) : Prop := (r = nI 1 ∧ p) ∨ (r = nI 0 ∧ ¬ p)
theorem yn_eq {p q : Prop} {a b : Int32} (h : yn p a) (h2 : yn q b) (e : p ↔ q) : a = b := by
  rcases h with ⟨h, hp⟩ | ⟨h, hp⟩
  · rcases h2 with ⟨h2, hq⟩ | ⟨h2, hq⟩
    · rw [h, h2]
    · exact absurd (e.1 hp) hq
  · rcases h2 with ⟨h2, hq⟩ | ⟨h2, hq⟩
    · exact absurd (e.2 hq) hp
    · rw [h, h2]
