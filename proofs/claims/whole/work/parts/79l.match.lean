/-! Makers: match, in the class. -/
def bcd (B : Nat → Int32) (w : Nat → Nat → Int32) (set m : Nat) (z : Int32) : Prop := ∃ e, e < m ∧ set.testBit e = true ∧ z = B (set ^^^ 2 ^ e) + w (pc set - 1) e
theorem c_45 {I J : ai_I} {t L k n r set : Nat} {B num : Nat → Int32} (hn : n ≤ 8) (hr : r < 8) (hs : set < 2 ^ n) (h1 : 1 ≤ pc set) (h2 : pc set ≤ r) (hR : RD I t L k num (3 + n * r)) (hJ : ∀ x, ¬ x = 50 → ¬ x = 51 → ¬ x = 54 → J x = I x) (h0 : J 50 0 = nI n) (hB : ∀ j, j < set → J 54 j = B j) : wp (m_45 49 (nI set) (nI (pc set - 1)) 43 (nI k) J (Rc t) (Gc L)) (MX (bcd B (fun row e => num (3 + row * n + e)) set n)) := by
  have h8 := p2_le hn
  unfold m_45
  refine wp_s1 (wp_lp (fun e s => ∃ x, s = (x, nI e) ∧ MX (bcd B (fun row e => num (3 + row * n + e)) set e) x) 0 n (Nat.zero_le _) (by omega) ⟨NO, rfl, Or.inl ⟨rfl, fun y ⟨e, he, _⟩ => absurd he (Nat.not_lt_zero _)⟩⟩ ?_ ?_)
  · rintro e s he ⟨x, rfl, hx⟩
    unfold m_45_b7
    dsimp only
    rw [r_49_0, k_50, o_g_t, if_neg (show ¬ J 50 0 ≤ nI e by rw [h0]; exact nI_ge he (by omega)), c_183 (by omega) (by omega), o_b1_s, q_bz]
    by_cases c : set.testBit e = true
    · have hxr := xr_all set (by omega) e (by omega) c
      have hm : (pc set - 1) * n + e < n * r := by
        have h3 : (pc set - 1 + 1) * n ≤ r * n := Nat.mul_le_mul_right n (by omega)
        rw [Nat.add_mul, Nat.one_mul] at h3
        rw [Nat.mul_comm n r]
        omega
      rw [if_pos c, i_shl (by decide) (by omega), Nat.one_mul, i_xor, r_49_1, g_54 (by omega), o_g_t, k_43, o_g_t, h0, i_mul, i_add, i_add, hR J hJ _ (by omega), o_b1_s, i_cl (by omega), hB _ hxr.1, mx_lt, o_b1_s, i_add, o_b1_s, wp_s, lq_l]
      refine ⟨_, rfl, MX_cong (MX_add hx) (fun z => ?_)⟩
      constructor
      · rintro (⟨e2, e3, e4⟩ | h3)
        · exact ⟨e2, by omega, e4⟩
        · exact ⟨e, by omega, c, h3⟩
      · rintro ⟨e2, e3, e4, e5⟩
        by_cases e6 : e2 = e
        · rw [e6] at e5
          exact Or.inr e5
        · exact Or.inl ⟨e2, by omega, e4, e5⟩
    · rw [if_neg c, i_add, o_b1_s, wp_s, lq_l]
      refine ⟨x, rfl, MX_cong hx (fun z => ?_)⟩
      constructor
      · rintro ⟨e2, e3, e4⟩
        exact ⟨e2, by omega, e4⟩
      · rintro ⟨e2, e3, e4, e5⟩
        by_cases e6 : e2 = e
        · rw [e6] at e4
          exact absurd e4 c
        · exact ⟨e2, by omega, e4, e5⟩
  · rintro s ⟨x, rfl, hx⟩
    unfold m_45_b7
    dsimp only
    rw [r_49_0, k_50, o_g_t, if_pos (show J 50 0 ≤ nI n by rw [h0]; exact Int32.le_refl _), wp_s, lq_r]
    exact ⟨x, rfl, hx⟩
/-- the best of sets below i -/
def BST (B : Nat → Int32) (w : Nat → Nat → Int32) (n r i : Nat) : Prop := B 0 = nI 0 ∧ ∀ j, 0 < j → j < i → pc j ≤ r → MX (bcd B w j n) (B j)
theorem bcd_cong {B B2 : Nat → Int32} {w : Nat → Nat → Int32} {j n : Nat} (hj : j < 256) (hn : n ≤ 8) (h : ∀ k, k < j → B k = B2 k) (z : Int32) : bcd B w j n z ↔ bcd B2 w j n z := by
  constructor
  · rintro ⟨e, h1, h2, h3⟩
    exact ⟨e, h1, h2, by rw [← h _ (xr_all j hj e (by omega) h2).1]; exact h3⟩
  · rintro ⟨e, h1, h2, h3⟩
    exact ⟨e, h1, h2, by rw [h _ (xr_all j hj e (by omega) h2).1]; exact h3⟩
