/-! Out of whole's part 17.st, by wip/p46/extract.py. -/
def ST1 (I : ai_I) : Prop := ∀ s, s < 4 → ∃ n r, WF n r (FV I s) ∧ CS I (6 + 4 * s) n r (FV I s) ∧ I 76 (258 * s) = nI n ∧ I 76 (258 * s + 1) = nI r
theorem BL_cong {V V2 : Nat → Int32} (h : ∀ k, k < 256 → V k = V2 k) : BL V = BL V2 := by
  unfold BL
  apply List.filter_congr
  intro x hx
  rw [h x (List.mem_range.1 hx)]
theorem rk_cong {V V2 : Nat → Int32} (h : ∀ k, k < 256 → V k = V2 k) (set : Nat) : rk V set = rk V2 set := by
  unfold rk
  rw [BL_cong h]
theorem WF_cong {n r : Nat} {V V2 : Nat → Int32} (h : ∀ k, k < 256 → V k = V2 k) (hW : WF n r V) : WF n r V2 := by
  obtain ⟨h1, h2, h3, h4, h5, k, hk, hV⟩ := hW
  exact ⟨h1, h2, h3, h4, fun j hj hN => (by rw [← h j hj] at hN ⊢; exact h5 j hj hN), k, hk, (by rw [← h k hk]; exact hV)⟩
theorem CS_cong {I I2 : ai_I} {v n r : Nat} {V V2 : Nat → Int32} (h : ∀ k, k < 256 → V k = V2 k) (h0 : I2 v = I v) (h1 : I2 (v + 1) = I (v + 1)) (h2 : I2 (v + 2) = I (v + 2)) (h3 : I2 (v + 3) = I (v + 3)) (hC : CS I v n r V) : CS I2 v n r V2 := by
  obtain ⟨c0, c1, c2, c3, c4, c5⟩ := hC
  unfold CS
  rw [h0, h1, h2, h3, ← BL_cong h]
  exact ⟨c0, c1, c2, fun k hk => (c3 k hk).trans (h k hk), fun k hk => (by rw [← rk_cong h]; exact c4 k hk), c5⟩
theorem vc_s {s : Nat} (h : s < 4) : 6 + 4 * s ∈ VC := by
  match s, h with
  | 0, _ => decide
  | 1, _ => decide
  | 2, _ => decide
  | 3, _ => decide
