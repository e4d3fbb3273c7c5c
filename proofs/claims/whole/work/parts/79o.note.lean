/-! Notes of the past, in the reference. -/
theorem BLV {I J : ai_I} {s : Nat} (h : ∀ j, j < 1032 → J 76 j = I 76 j) (hs : s < 4) : BL (FV J s) = BL (FV I s) := BL_cong (fun k hk => h (258 * s + 2 + k) (by omega))
theorem s_239j {I : ai_I} {t L s m : Nat} {had : Int32} (hs : s < 4) (hm : m < 20) (h : I 76 1041 = nI m) : wp (m_239_j57 75 (nI s) had (Rc t) (Gc L) I) (fun K => (∀ c, ¬ c = 76 → K c = I c) ∧ (∀ j, ¬ j = 1041 → (j < 1042 + 4 * m ∨ 1042 + 4 * m + 4 ≤ j) → K 76 j = I 76 j) ∧ K 76 1041 = nI (m + 1) ∧ K 76 (1042 + 4 * m) = nI s ∧ K 76 (1042 + 4 * m + 1) = had ∧ K 76 (1042 + 4 * m + 2) = nI (BL (FV I s)).length ∧ K 76 (1042 + 4 * m + 3) = I 76 (258 * s)) := by
  unfold m_239_j57
  rw [r_75_0, g_76 (by decide), o_g_t, show (nI 1041).toNatClampNeg = 1041 from rfl, h, i_mul, i_add, o_b1_s, g_76 (by omega), o_g_t, i_cl (by omega), o_b1_s, i_add, g_76 (by omega), o_g_t, i_cl (by omega), o_b1_s]
  generalize hA : va_up (va_up I 76 _) 76 _ = A
  have a1 : ∀ c, ¬ c = 76 → A c = I c := fun c hc => by rw [← hA, up_ne hc, up_ne hc]
  have a2 : ∀ j, ¬ j = 1042 + 4 * m → ¬ j = 1042 + 4 * m + 1 → A 76 j = I 76 j := fun j j1 j2 => by rw [← hA, up_eq, up_ne j2, up_eq, up_ne j1]
  have a3 : A 76 (1042 + 4 * m) = nI s ∧ A 76 (1042 + 4 * m + 1) = had := by
    rw [← hA, up_eq]
    exact ⟨by rw [up_ne (by omega), up_eq, up_eq], by rw [up_eq]⟩
  rw [s_204 (by omega), o_b1_s, BLV (fun j hj => a2 j (by omega) (by omega)) hs, i_add, g_76 (by omega), o_g_t, i_cl (by omega), o_b1_s]
  generalize hB : va_up A 76 _ = B
  have b1 : ∀ c, ¬ c = 76 → B c = I c := fun c hc => by rw [← hB, up_ne hc, a1 c hc]
  have b2 : ∀ j, ¬ j = 1042 + 4 * m + 2 → B 76 j = A 76 j := fun j j1 => by rw [← hB, up_eq, up_ne j1]
  have b3 : B 76 (1042 + 4 * m + 2) = nI (BL (FV I s)).length := by rw [← hB, up_eq, up_eq]
  rw [s_195 (by omega), o_b1_s, b2 _ (by omega), a2 _ (by omega) (by omega), i_add, g_76 (by omega), o_g_t, i_cl (by omega), o_b1_s]
  generalize hC : va_up B 76 _ = C
  have c1 : ∀ c, ¬ c = 76 → C c = I c := fun c hc => by rw [← hC, up_ne hc, b1 c hc]
  have c2 : ∀ j, ¬ j = 1042 + 4 * m + 3 → C 76 j = B 76 j := fun j j1 => by rw [← hC, up_eq, up_ne j1]
  have c3 : C 76 (1042 + 4 * m + 3) = I 76 (258 * s) := by rw [← hC, up_eq, up_eq]
  have c4 : C 76 1041 = nI m := by rw [c2 _ (by omega), b2 _ (by omega), a2 _ (by omega) (by omega), h]
  rw [o_g_t, o_g_t, c4, i_add, o_b1_s, wp_s]
  refine ⟨fun c hc => by rw [up_ne hc, c1 c hc], fun j j1 j2 => by rw [up_eq, up_ne j1, c2 _ (by omega), b2 _ (by omega), a2 _ (by omega) (by omega)], by rw [up_eq, up_eq], by rw [up_eq, up_ne (by omega), c2 _ (by omega), b2 _ (by omega), a3.1], by rw [up_eq, up_ne (by omega), c2 _ (by omega), b2 _ (by omega), a3.2], by rw [up_eq, up_ne (by omega), c2 _ (by omega), b3], by rw [up_eq, up_ne (by omega), c3]⟩
theorem s_239 {I : ai_I} {t L s m : Nat} {had : Int32} (hs : s < 4) (hm : m ≤ 20) (h : I 76 1041 = nI m) : wp (m_239 75 (nI s) had I (Rc t) (Gc L)) (fun K => (∀ c, ¬ c = 76 → K c = I c) ∧ (∀ j, (j < 1041 ∨ 1122 ≤ j) → K 76 j = I 76 j) ∧ ∃ p, p < 20 ∧ min 20 (m + 1) = p + 1 ∧ K 76 1041 = nI (p + 1) ∧ (∀ i, i < 4 * p → K 76 (1042 + i) = I 76 (1042 + 4 * (m - p) + i)) ∧ K 76 (1042 + 4 * p) = nI s ∧ K 76 (1042 + 4 * p + 1) = had ∧ K 76 (1042 + 4 * p + 2) = nI (BL (FV I s)).length ∧ K 76 (1042 + 4 * p + 3) = I 76 (258 * s)) := by
  unfold m_239
  rw [r_75_0, g_76 (by decide), o_g_t, show (nI 1041).toNatClampNeg = 1041 from rfl]
  by_cases c : m = 20
  · subst c
    rw [if_pos h]
    refine wp_s1 (wp_lp (fun i s => s.1 = nI i ∧ (∀ c, ¬ c = 76 → s.2 c = I c) ∧ (∀ j, (j < 1042 ∨ 1042 + i ≤ j) → s.2 76 j = I 76 j) ∧ ∀ j, j < i → s.2 76 (1042 + j) = I 76 (1046 + j)) 0 76 (Nat.zero_le _) (by omega) ⟨rfl, fun _ _ => rfl, fun _ _ => rfl, fun j hj => absurd hj (Nat.not_lt_zero _)⟩ ?_ ?_)
    · rintro i ⟨x, M⟩ hi ⟨g1, g2, g3, g4⟩
      dsimp only at g1 g2 g3 g4
      subst g1
      unfold m_239_b15
      dsimp only
      rw [if_neg (nI_ge hi (by decide)), r_75_0, i_add, i_add, g_76 (by omega), o_g_t, g_76 (by omega), o_g_t, i_cl (by omega), i_cl (by omega), g3 _ (Or.inr (by omega)), o_b1_s, i_add, o_b1_s, wp_s, lq_l]
      refine ⟨rfl, fun c hc => by dsimp only; rw [up_ne hc]; exact g2 c hc, fun j hj => by dsimp only; rw [up_eq, up_ne (by omega)]; exact g3 j (by omega), fun j hj => ?_⟩
      dsimp only
      rw [up_eq]
      by_cases e : j = i
      · rw [e, up_eq]
      · rw [up_ne (by omega)]
        exact g4 j (by omega)
    · rintro ⟨x, M⟩ ⟨g1, g2, g3, g4⟩
      dsimp only at g1 g2 g3 g4
      subst g1
      unfold m_239_b15
      dsimp only
      rw [if_pos (Int32.le_refl _), wp_s, lq_r]
      unfold m_239_x15_47
      rw [r_75_0, g_76 (by decide), o_g_t, show (nI 1041).toNatClampNeg = 1041 from rfl, o_b1_s]
      refine wp_mono (s_239j (m := 19) hs (by omega) (by rw [up_eq, up_eq])) ?_
      rintro K ⟨k1, k2, k3, k4, k5, k6, k7⟩
      have e : ∀ j, j < 1032 → va_up M 76 (va_up (M 76) 1041 (nI 19)) 76 j = I 76 j := fun j hj => by rw [up_eq, up_ne (by omega)]; exact g3 j (by omega)
      rw [BLV e hs] at k6
      rw [e _ (by omega)] at k7
      refine ⟨fun c hc => by rw [k1 c hc, up_ne hc, g2 c hc], fun j hj => by rw [k2 j (by omega) (by omega), up_eq, up_ne (by omega)]; exact g3 j (by omega), 19, by decide, by decide, k3, fun i hi => ?_, k4, k5, k6, k7⟩
      rw [k2 _ (by omega) (by omega), up_eq, up_ne (by omega), g4 i (by omega)]
  · rw [if_neg (show ¬ I 76 1041 = nI 20 by rw [h, i_eq (by omega) (by decide)]; exact c)]
    refine wp_mono (s_239j (m := m) hs (by omega) h) ?_
    rintro K ⟨k1, k2, k3, k4, k5, k6, k7⟩
    exact ⟨k1, fun j hj => k2 j (by omega) (by omega), m, by omega, by omega, k3, fun i hi => by rw [k2 _ (by omega) (by omega), show 1042 + 4 * (m - m) + i = 1042 + i by omega], k4, k5, k6, k7⟩
