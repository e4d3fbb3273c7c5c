/-! Makers: match, in the reference. -/
theorem pc_x : ∀ j, j < 256 → ∀ e, e < 8 → j.testBit e = true → pc (j ^^^ 2 ^ e) + 1 = pc j := by decide +kernel
theorem has_bit {j n : Nat} (hj : 0 < j) (hn : j < 2 ^ n) : ∃ e, e < n ∧ j.testBit e = true := Classical.byContradiction (fun hc => by
  have h0 : j = 0 := tb_ext (fun x => by
    rw [Nat.zero_testBit]
    constructor
    · intro h
      by_cases hx : x < n
      · exact absurd ⟨x, hx, h⟩ hc
      · rw [tb_hi hn (by omega)] at h
        cases h
    · intro h
      cases h)
  omega)
theorem bst_b {B : Nat → Int32} {w : Nat → Nat → Int32} {n r : Nat} (hn : n ≤ 8) (hB : BST B w n r (2 ^ n)) (hw : ∀ q e, q < r → e < n → -999 ≤ (w q e).toInt ∧ (w q e).toInt ≤ 999) : ∀ j, j < 2 ^ n → pc j ≤ r → -(999 * (pc j : Int)) ≤ (B j).toInt ∧ (B j).toInt ≤ 999 * (pc j : Int) := by
  intro j
  induction j using Nat.strongRecOn with
  | _ j ih =>
    intro hj hp
    have h8 := p2_le hn
    by_cases h0 : j = 0
    · rw [h0, hB.1, show pc 0 = 0 by decide]
      exact ⟨by decide, by decide⟩
    · rcases hB.2 j (by omega) hj hp with ⟨-, h2⟩ | ⟨⟨e, e1, e2, e3⟩, -⟩
      · obtain ⟨e, e1, e2⟩ := has_bit (by omega) hj
        exact absurd ⟨e, e1, e2, rfl⟩ (h2 _)
      · have hx := xr_all j (by omega) e (by omega) e2
        have hpx := pc_x j (by omega) e (by omega) e2
        have hi := ih _ hx.1 (by omega) (by omega)
        have hwe := hw (pc j - 1) e (by omega) e1
        have hp8 := pc_le j
        rw [e3, Int32.toInt_add, Int.bmod_eq_of_le (by omega) (by omega)]
        omega
theorem bst_no {B : Nat → Int32} {w : Nat → Nat → Int32} {n r j : Nat} (hn : n ≤ 8) (hB : BST B w n r (2 ^ n)) (hw : ∀ q e, q < r → e < n → -999 ≤ (w q e).toInt ∧ (w q e).toInt ≤ 999) (hj : j < 2 ^ n) (hp : pc j ≤ r) : B j ≠ NO := fun h => by
  have h1 := bst_b hn hB hw j hj hp
  have h8 := pc_le j
  rw [h, show NO.toInt = -2147483648 by decide] at h1
  omega
/-- where the reference stands within row q, with sets from m on behind it -/
def RWd (B : Nat → Int32) (w : Nat → Nat → Int32) (n q m : Nat) (D : Nat → Int32) : Prop := (∀ j, j < 256 → ¬ (j < 2 ^ n ∧ pc j = q + 1) → D j = if j < 2 ^ n ∧ pc j = q ∧ j < m then B j else NO) ∧ ∀ j, j < 2 ^ n → pc j = q + 1 → MX (fun z => ∃ e, e < n ∧ j.testBit e = true ∧ m ≤ j ^^^ 2 ^ e ∧ z = B (j ^^^ 2 ^ e) + w q e) (D j)
theorem RWd_end {B D : Nat → Int32} {w : Nat → Nat → Int32} {n r q : Nat} (hn : n ≤ 8) (hB : BST B w n r (2 ^ n)) (hq : q < r) (h : RWd B w n q 0 D) : ∀ j, j < 256 → D j = if j < 2 ^ n ∧ pc j = q + 1 then B j else NO := by
  intro j hj
  by_cases c : j < 2 ^ n ∧ pc j = q + 1
  · rw [if_pos c]
    have h0 : 0 < j := by
      apply Nat.pos_of_ne_zero
      intro h0
      have h1 := c.2
      rw [h0, show pc 0 = 0 by decide] at h1
      omega
    refine MX_eq (h.2 j c.1 c.2) (hB.2 j h0 c.1 (by omega)) (fun z => ?_)
    unfold bcd
    rw [c.2, show q + 1 - 1 = q by omega]
    exact ⟨fun ⟨e, h1, h2, _, h3⟩ => ⟨e, h1, h2, h3⟩, fun ⟨e, h1, h2, h3⟩ => ⟨e, h1, h2, Nat.zero_le _, h3⟩⟩
  · rw [if_neg c, h.1 j hj c, if_neg (fun h9 => absurd h9.2.2 (Nat.not_lt_zero _))]
