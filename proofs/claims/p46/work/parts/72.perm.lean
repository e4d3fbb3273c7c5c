/-! Out of whole's part 72.perm, by wip/p46/extract.py. -/
/-- the image of a set -/
def im (σ : Nat → Nat) (S : Nat) : Nat → Nat
  | 0 => 0
  | k + 1 => if S.testBit k = true then im σ S k ||| 2 ^ σ k else im σ S k
theorem tb_ext {a b : Nat} (h : ∀ x, (a.testBit x = true ↔ b.testBit x = true)) : a = b := Nat.eq_of_testBit_eq (fun x => Bool.eq_iff_iff.2 (h x))
/-- rows of n of eight -/
def PM (n : Nat) (σ : Nat → Nat) : Prop := (∀ i, i < 8 → σ i < 8) ∧ (∀ i j, i < 8 → j < 8 → σ i = σ j → i = j) ∧ ∀ i, n ≤ i → i < 8 → σ i = i
/-- rows that carry V over to W -/
def Sol (n : Nat) (V W : Nat → Int32) (σ : Nat → Nat) : Prop := PM n σ ∧ ∀ S, S < 2 ^ n → V S = W (im σ S 8)
def dc (c i : Nat) : Nat := c / 8 ^ (7 - i) % 8
