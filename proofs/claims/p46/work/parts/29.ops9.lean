/-! Out of whole's part 29.ops9, by wip/p46/extract.py. -/
theorem fd_idx' {α : Type} {f : Nat → α → α} (P : Nat → α → Prop) : ∀ (n i : Nat) (a : α), P i a → (∀ j a, i ≤ j → j < i + n → P j a → P (j + 1) (f j a)) → P (i + n) (fd f (List.range' i n) a)
  | 0, i, a, h, _ => h
  | n + 1, i, a, h, hs => by
    rw [List.range'_succ]
    have h2 := fd_idx' P n (i + 1) (f i a) (hs i a (Nat.le_refl _) (by omega) h) (fun j b h1 h2 h3 => hs j b (by omega) (by omega) h3)
    rw [show i + (n + 1) = i + 1 + n by omega]
    exact h2
theorem fd_idx {α : Type} {f : Nat → α → α} (P : Nat → α → Prop) {N : Nat} {a : α} (h : P 0 a) (hs : ∀ j a, j < N → P j a → P (j + 1) (f j a)) : P N (fd f (List.range N) a) := by
  rw [List.range_eq_range']
  have h2 := fd_idx' P N 0 a h (fun j b _ h2 h3 => hs j b (by omega) h3)
  rw [Nat.zero_add] at h2
  exact h2
/-- prices are small, so are their sums -/
theorem prs_gt {p : Nat → Int32} (h : ∀ e, e < 8 → -1000 ≤ p e ∧ p e ≤ 1000) (x : Nat) : -8000 ≤ (prs p x).toInt ∧ (prs p x).toInt ≤ 8000 := by
  have key : ∀ (k : Nat) (a : Int32), -(1000 * (k : Int)) ≤ a.toInt ∧ a.toInt ≤ 1000 * (k : Int) → k < 8 → -(1000 * ((k + 1 : Nat) : Int)) ≤ (if x.testBit k = true then a + p k else a).toInt ∧ (if x.testBit k = true then a + p k else a).toInt ≤ 1000 * ((k + 1 : Nat) : Int) := by
    intro k a ha hk
    have hp := h k hk
    rw [Int32.le_iff_toInt_le, Int32.le_iff_toInt_le, show (-1000 : Int32).toInt = -1000 from by decide, show (1000 : Int32).toInt = 1000 from by decide] at hp
    by_cases hb : x.testBit k = true
    · rw [if_pos hb, Int32.toInt_add]
      unfold Int.bmod
      dsimp only
      constructor
      · split <;> omega
      · split <;> omega
    · rw [if_neg hb]
      omega
  have h2 := fd_idx (f := fun e a => if x.testBit e = true then a + p e else a) (fun k (a : Int32) => -(1000 * (k : Int)) ≤ a.toInt ∧ a.toInt ≤ 1000 * (k : Int)) (N := 8) (a := nI 0) (by decide) (fun j a hj ha => key j a ha hj)
  exact ⟨by have := h2.1; unfold prs; omega, by have := h2.2; unfold prs; omega⟩
