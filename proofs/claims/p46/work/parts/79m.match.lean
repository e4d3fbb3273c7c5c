/-! Out of whole's part 79m.match, by wip/p46/extract.py. -/
theorem pc_x : ∀ j, j < 256 → ∀ e, e < 8 → j.testBit e = true → pc (j ^^^ 2 ^ e) + 1 = pc j := by decide +kernel
theorem has_bit {j n : Nat} (hj : 0 < j) (hn : j < 2 ^ n) : ∃ e, e < n ∧ j.testBit e = true := Classical.byContradiction (fun hc => by
  have h0 : j = 0 := tb_ext (fun x => by
    rw [Nat.zero_testBit]
    constructor
    · intro h
      by_cases hx : x < n
      · exact absurd ⟨x, hx, h⟩ hc
      · rw [tb_hi hn (by omega)] at h
        cases h
    · intro h
      cases h)
  omega)
theorem bst_b {B : Nat → Int32} {w : Nat → Nat → Int32} {n r : Nat} (hn : n ≤ 8) (hB : BST B w n r (2 ^ n)) (hw : ∀ q e, q < r → e < n → -999 ≤ (w q e).toInt ∧ (w q e).toInt ≤ 999) : ∀ j, j < 2 ^ n → pc j ≤ r → -(999 * (pc j : Int)) ≤ (B j).toInt ∧ (B j).toInt ≤ 999 * (pc j : Int) := by
  intro j
  induction j using Nat.strongRecOn with
  | _ j ih =>
    intro hj hp
    have h8 := p2_le hn
    by_cases h0 : j = 0
    · rw [h0, hB.1, show pc 0 = 0 by decide]
      exact ⟨by decide, by decide⟩
    · rcases hB.2 j (by omega) hj hp with ⟨-, h2⟩ | ⟨⟨e, e1, e2, e3⟩, -⟩
      · obtain ⟨e, e1, e2⟩ := has_bit (by omega) hj
        exact absurd ⟨e, e1, e2, rfl⟩ (h2 _)
      · have hx := xr_all j (by omega) e (by omega) e2
        have hpx := pc_x j (by omega) e (by omega) e2
        have hi := ih _ hx.1 (by omega) (by omega)
        have hwe := hw (pc j - 1) e (by omega) e1
        have hp8 := pc_le j
        rw [e3, Int32.toInt_add, Int.bmod_eq_of_le (by omega) (by omega)]
        omega
theorem bst_no {B : Nat → Int32} {w : Nat → Nat → Int32} {n r j : Nat} (hn : n ≤ 8) (hB : BST B w n r (2 ^ n)) (hw : ∀ q e, q < r → e < n → -999 ≤ (w q e).toInt ∧ (w q e).toInt ≤ 999) (hj : j < 2 ^ n) (hp : pc j ≤ r) : B j ≠ NO := fun h => by
  have h1 := bst_b hn hB hw j hj hp
  have h8 := pc_le j
  rw [h, show NO.toInt = -2147483648 by decide] at h1
  omega
