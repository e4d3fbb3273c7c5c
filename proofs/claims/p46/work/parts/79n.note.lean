/-! Out of whole's part 79n.note, by wip/p46/extract.py. -/
theorem c_98 {I : ai_I} {t m : Nat} {L : ai_G} {a b c d : Int32} (hm : m ≤ 20) (h : I 2 3 = nI m) : wp (m_67 2 a b c d I (Rc t) (Gc L)) (fun J => (∀ x, ¬ x = 2 → ¬ x = 5 → J x = I x) ∧ (∀ j, ¬ j = 3 → J 2 j = I 2 j) ∧ J 2 3 = nI (min 20 (m + 1)) ∧ J 5 0 = a ∧ J 5 1 = b ∧ J 5 2 = c ∧ J 5 3 = d ∧ ∀ j, 4 ≤ j → j < 80 → J 5 j = I 5 (j - 4)) := by
  have hc : o_cpy (Gc L) 5 5 (nI 0) (nI 4) (nI 76) = true := decide_eq_true ⟨rfl, rfl, by decide, by decide, by decide, Nat.le_of_ble_eq_true rfl, Nat.le_of_ble_eq_true rfl⟩
  unfold m_67
  rw [r_2_2, hc, o_g_t, o_b1_s, g_5 (by decide), o_g_t, o_b1_s, g_5 (by decide), o_g_t, o_b1_s, g_5 (by decide), o_g_t, o_b1_s, g_5 (by decide), o_g_t, o_b1_s]
  generalize hK : va_up (va_up (va_up (va_up (va_up I 5 _) 5 _) 5 _) 5 _) 5 _ = K
  have k1 : ∀ x, ¬ x = 5 → K x = I x := fun x hx => by rw [← hK, up_ne hx, up_ne hx, up_ne hx, up_ne hx, up_ne hx]
  have k2 : K 5 0 = a ∧ K 5 1 = b ∧ K 5 2 = c ∧ K 5 3 = d := by
    rw [← hK]
    exact ⟨rfl, rfl, rfl, rfl⟩
  have k3 : ∀ j, 4 ≤ j → j < 80 → K 5 j = I 5 (j - 4) := fun j j1 j2 => by
    rw [← hK, up_eq, up_ne (show ¬ j = (nI 3).toNatClampNeg by show ¬ j = 3; omega), up_eq, up_ne (show ¬ j = (nI 2).toNatClampNeg by show ¬ j = 2; omega), up_eq, up_ne (show ¬ j = (nI 1).toNatClampNeg by show ¬ j = 1; omega), up_eq, up_ne (show ¬ j = (nI 0).toNatClampNeg by show ¬ j = 0; omega), up_eq]
    show va_cpy (I 5) (I 5) 0 4 76 j = _
    unfold va_cpy
    rw [if_pos ⟨j1, by omega⟩, Nat.zero_add]
  have hmin : (if nI 20 < K 2 3 + nI 1 then nI 20 else K 2 3 + nI 1) = nI (min 20 (m + 1)) := by
    rw [k1 2 (by decide), h, i_add]
    by_cases e : 20 < m + 1
    · rw [if_pos (nI_lt e (by omega)), show min 20 (m + 1) = 20 by omega]
    · rw [if_neg (show ¬ nI 20 < nI (m + 1) by rw [i_lt (by decide) (by omega)]; exact e), show min 20 (m + 1) = m + 1 by omega]
  rw [hmin, o_b1_s, o_b1_s, wp_s]
  refine ⟨fun x x1 x2 => by rw [up_ne x1, k1 x x2], fun j hj => by rw [up_eq, up_ne hj, k1 2 (by decide)], by rw [up_eq, up_eq], by rw [up_ne (by decide)]; exact k2.1, by rw [up_ne (by decide)]; exact k2.2.1, by rw [up_ne (by decide)]; exact k2.2.2.1, by rw [up_ne (by decide)]; exact k2.2.2.2, fun j j1 j2 => by rw [up_ne (by decide)]; exact k3 j j1 j2⟩
