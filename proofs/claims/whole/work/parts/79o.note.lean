/-! Notes of the past, in the reference. -/
theorem BLV {I J : ai_I} {s : Nat} (h : ∀ j, j < 1032 → J 76 j = I 76 j) (hs : s < 4) : BL (FV J s) = BL (FV I s) := BL_cong (fun k hk => h (258 * s + 2 + k) (by omega))
theorem s_239j {I : ai_I} {t L s m : Nat} {had : Int32} (hs : s < 4) (hm : m < 20) (h : I 76 1041 = nI m) : wp (m_239_j57 75 (nI s) had (Rc t) (Gc L) I) (fun K => (∀ c, ¬ c = 76 → K c = I c) ∧ (∀ j, ¬ j = 1041 → (j < 1042 + 4 * m ∨ 1042 + 4 * m + 4 ≤ j) → K 76 j = I 76 j) ∧ K 76 1041 = nI (m + 1) ∧ K 76 (1042 + 4 * m) = nI s ∧ K 76 (1042 + 4 * m + 1) = had ∧ K 76 (1042 + 4 * m + 2) = nI (BL (FV I s)).length ∧ K 76 (1042 + 4 * m + 3) = I 76 (258 * s)) := by
  unfold m_239_j57
  rw [r_75_0, g_76 (by decide), o_g_t, show (nI 1041).toNatClampNeg = 1041 from rfl, h, i_mul, i_add, o_b1_s, g_76 (by omega), o_g_t, i_cl (by omega), o_b1_s, i_add, g_76 (by omega), o_g_t, i_cl (by omega), o_b1_s]
  generalize hA : va_up (va_up I 76 _) 76 _ = A
  have a1 : ∀ c, ¬ c = 76 → A c = I c := fun c hc => by rw [← hA, up_ne hc, up_ne hc]
  have a2 : ∀ j, ¬ j = 1042 + 4 * m → ¬ j = 1042 + 4 * m + 1 → A 76 j = I 76 j := fun j j1 j2 => by rw [← hA, up_eq, up_ne j2, up_eq, up_ne j1]
  have a3 : A 76 (1042 + 4 * m) = nI s ∧ A 76 (1042 + 4 * m + 1) = had := by
    rw [← hA, up_eq]
    exact ⟨by rw [up_ne (by omega), up_eq, up_eq], by rw [up_eq]⟩
  rw [s_204 (by omega), o_b1_s, BLV (fun j hj => a2 j (by omega) (by omega)) hs, i_add, g_76 (by omega), o_g_t, i_cl (by omega), o_b1_s]
  generalize hB : va_up A 76 _ = B
  have b1 : ∀ c, ¬ c = 76 → B c = I c := fun c hc => by rw [← hB, up_ne hc, a1 c hc]
  have b2 : ∀ j, ¬ j = 1042 + 4 * m + 2 → B 76 j = A 76 j := fun j j1 => by rw [← hB, up_eq, up_ne j1]
  have b3 : B 76 (1042 + 4 * m + 2) = nI (BL (FV I s)).length := by rw [← hB, up_eq, up_eq]
  rw [s_195 (by omega), o_b1_s, b2 _ (by omega), a2 _ (by omega) (by omega), i_add, g_76 (by omega), o_g_t, i_cl (by omega), o_b1_s]
  generalize hC : va_up B 76 _ = C
  have c1 : ∀ c, ¬ c = 76 → C c = I c := fun c hc => by rw [← hC, up_ne hc, b1 c hc]
  have c2 : ∀ j, ¬ j = 1042 + 4 * m + 3 → C 76 j = B 76 j := fun j j1 => by rw [← hC, up_eq, up_ne j1]
  have c3 : C 76 (1042 + 4 * m + 3) = I 76 (258 * s) := by rw [← hC, up_eq, up_eq]
  have c4 : C 76 1041 = nI m := by rw [c2 _ (by omega), b2 _ (by omega), a2 _ (by omega) (by omega), h]
  rw [o_g_t, o_g_t, c4, i_add, o_b1_s, wp_s]
  refine ⟨fun c hc => by rw [up_ne hc, c1 c hc], fun j j1 j2 => by rw [up_eq, up_ne j1, c2 _ (by omega), b2 _ (by omega), a2 _ (by omega) (by omega)], by rw [up_eq, up_eq], by rw [up_eq, up_ne (by omega), c2 _ (by omega), b2 _ (by omega), a3.1], by rw [up_eq, up_ne (by omega), c2 _ (by omega), b2 _ (by omega), a3.2], by rw [up_eq, up_ne (by omega), c2 _ (by omega), b3], by rw [up_eq, up_ne (by omega), c3]⟩
