/-! Parts of what holds, carried over writes; price, seed, count. -/
theorem up_eq {α : Type} {f : Nat → α} {a : Nat} {x : α} : va_up f a x a = x := by
  unfold va_up
  rw [if_pos rfl]
theorem up_ne {α : Type} {f : Nat → α} {a b : Nat} {x : α} (h : ¬ b = a) : va_up f a x b = f b := by
  unfold va_up
  rw [if_neg h]
section
variable {I I2 : ai_I}
theorem ST1_of (e1 : ∀ c, 6 ≤ c → c < 22 → I2 c = I c) (e2 : ∀ j, j < 1032 → I2 76 j = I 76 j) (h : ST1 I) : ST1 I2 := fun s hs => by
  obtain ⟨n, r, h1, h2, h3, h4⟩ := h s hs
  have hV : ∀ k, k < 256 → FV I s k = FV I2 s k := fun k hk => (e2 _ (by omega)).symm
  exact ⟨n, r, WF_cong hV h1, CS_cong hV (e1 _ (by omega) (by omega)) (e1 _ (by omega) (by omega)) (e1 _ (by omega) (by omega)) (e1 _ (by omega) (by omega)) h2, by rw [e2 _ (by omega)]; exact h3, by rw [e2 _ (by omega)]; exact h4⟩
theorem PR_of {c o : Nat} (e1 : I2 c = I c) (e2 : ∀ j, o ≤ j → j < o + 8 → I2 76 j = I 76 j) (h : PR I c o) : PR I2 c o := fun e he => by
  rw [e1, e2 (o + e) (by omega) (by omega)]
  exact h e he
theorem XR_of {c o : Nat} (e1 : I2 c 4 = I c 4) (e2 : I2 76 o = I 76 o) (h : XR I c o) : XR I2 c o := by
  obtain ⟨x, h1, h2, h3⟩ := h
  exact ⟨x, h1, by rw [e1]; exact h2, by rw [e2]; exact h3⟩
theorem PA_of {c c2 o : Nat} (e1 : I2 c 3 = I c 3) (e2 : I2 c2 = I c2) (e3 : ∀ j, o ≤ j → j < o + 81 → I2 76 j = I 76 j) (h : PA I c c2 o) : PA I2 c c2 o := by
  obtain ⟨m, h1, h2, h3, h4⟩ := h
  exact ⟨m, h1, by rw [e1]; exact h2, by rw [e3 o (by omega) (by omega)]; exact h3, fun k hk j hj => by rw [e2, e3 (o + 1 + 4 * (m - 1 - k) + j) (by omega) (by omega)]; exact h4 k hk j hj⟩
theorem ST2_of (e0 : I2 1 2 = I 1 2) (e1 : I2 75 1 = I 75 1) (e2 : ∀ c, 22 ≤ c → c < 42 → I2 c = I c) (e3 : ∀ j, 1122 ≤ j → j < 2244 → I2 76 j = I 76 j) (h : ST2 I) : ST2 I2 := by
  refine ⟨by rw [e0, e1]; exact h.1, ?_⟩
  rw [e0]
  rcases h.2 with h | ⟨h, h1, h2, h3, h4⟩
  · exact Or.inl h
  · refine Or.inr ⟨h, fun s hs => ?_, PR_of (e2 _ (by decide) (by decide)) (fun j hj hj2 => e3 j (by omega) (by omega)) h2, XR_of (by rw [e2 _ (by decide) (by decide)]) (e3 _ (by decide) (by decide)) h3, PA_of (by rw [e2 _ (by decide) (by decide)]) (e2 _ (by decide) (by decide)) (fun j hj hj2 => e3 j (by omega) (by omega)) h4⟩
    obtain ⟨n, r, k1, k2, k3, k4⟩ := h1 s hs
    have hV : ∀ k, k < 256 → FK I s k = FK I2 s k := fun k hk => (e3 _ (by omega) (by omega)).symm
    exact ⟨n, r, WF_cong hV k1, CS_cong hV (e2 _ (by omega) (by omega)) (e2 _ (by omega) (by omega)) (e2 _ (by omega) (by omega)) (e2 _ (by omega) (by omega)) k2, by rw [e3 _ (by omega) (by omega)]; exact k3, by rw [e3 _ (by omega) (by omega)]; exact k4⟩
theorem TA_of (e0 : I2 1 4 = I 1 4) (e1 : I2 75 3 = I 75 3) (e2 : I2 42 = I 42) (e3 : I2 77 = I 77) (h : TA I) : TA I2 := by
  obtain ⟨n, h1, h2, h3, h4⟩ := h
  exact ⟨n, h1, by rw [e0]; exact h2, by rw [e1]; exact h3, fun k hk => by rw [e2, e3]; exact h4 k hk⟩
end
theorem i_lo (x : Int32) {m : Nat} (hm : m < 2147483648) : nI m ≤ x ↔ ¬ x < nI m := ⟨fun h => Int32.not_lt.2 h, fun h => Int32.not_lt.1 h⟩
theorem op_seed {I : ai_I} {t L : Nat} (h : ST I) (x : Int32) : OPw I (m_177 1 x I (Rc t) (Gc L)) (fun I1 => m_326 75 x I1 (Rc t) (Gc L)) := by
  unfold m_177 m_326
  rw [r_1_0, k_2, o_g_t, r_75_0, g_76 (by decide), j_lit.2.1, show (65535 : Int64) = (nI 65535).toInt64 from by decide +kernel]
  rcases x_cases x (n := 65535) (by decide) with ⟨j, hj, rfl⟩ | hx
  · rw [q_n0 (by omega), q_ltT (by decide) (by omega), o_b1_s]
    refine ⟨nI 1, va_up I 2 (va_up (I 2) 4 (nI j)), (va_up (va_up I 2 (va_up (I 2) 4 (nI j))) 76 (va_up (va_up I 2 (va_up (I 2) 4 (nI j)) 76) (nI 1040).toNatClampNeg (nI j))), rfl, ?_, ?_⟩
    · show o_b1 (m_189 _ _ _) _ = _
      rw [s_189i, o_b1_s, q_bz, if_pos ⟨nI_le (by omega) (by omega), nI_le hj (by omega)⟩, o_g_t, o_b1_s]
    · have e2 : ∀ k, ¬ k = 1040 → (va_up (va_up I 2 (va_up (I 2) 4 (nI j))) 76 (va_up (va_up I 2 (va_up (I 2) 4 (nI j)) 76) (nI 1040).toNatClampNeg (nI j))) 76 k = I 76 k := fun k hk => by
        rw [up_eq, i_cl (by decide), up_ne hk, up_ne (by decide)]
      have e1 : ∀ c, ¬ c = 2 → ¬ c = 76 → (va_up (va_up I 2 (va_up (I 2) 4 (nI j))) 76 (va_up (va_up I 2 (va_up (I 2) 4 (nI j)) 76) (nI 1040).toNatClampNeg (nI j))) c = I c := fun c h1 h2 => by
        rw [up_ne h2, up_ne h1]
      obtain ⟨s1, s2, s3, s4, s5, s6⟩ := h
      refine ⟨⟨ST1_of (fun c h1 h2 => e1 c (by omega) (by omega)) (fun k hk => e2 k (by omega)) s1, ST2_of (by rw [e1 _ (by decide) (by decide)]) (by rw [e1 _ (by decide) (by decide)]) (fun c h1 h2 => e1 c (by omega) (by omega)) (fun k h1 h2 => e2 k (by omega)) s2, PR_of (e1 _ (by decide) (by decide)) (fun k h1 h2 => e2 k (by omega)) s3, ⟨j, by omega, ?_, ?_⟩, PA_of ?_ (e1 _ (by decide) (by decide)) (fun k h1 h2 => e2 k (by omega)) s5, TA_of (by rw [e1 _ (by decide) (by decide)]) (by rw [e1 _ (by decide) (by decide)]) (e1 _ (by decide) (by decide)) (e1 _ (by decide) (by decide)) s6⟩, ?_, up_ne (by decide)⟩
      · rw [up_ne (by decide), up_eq, up_eq]
      · rw [up_eq, i_cl (by decide), up_eq]
      · rw [up_ne (by decide), up_eq, up_ne (by decide)]
      · rw [up_ne (by decide)]
  · have hc : (if x < 0 then some (nI 0, I) else if x < nI 65536 then o_b1 (some (va_up I 2 (va_up (I 2) 4 x))) fun I_18 => some (nI 1, I_18) else some (nI 0, I)) = some (nI 0, I) := by
      by_cases h1 : x < 0
      · rw [if_pos h1]
      · rw [if_neg h1, if_neg (fun h2 => hx ⟨Int32.not_lt.1 h1, (i_ltp (by decide) (by decide) x).1 h2⟩)]
    refine ⟨nI 0, I, I, ?_, ?_, h, rfl, rfl⟩
    · exact hc
    · show o_b1 (m_189 _ _ _) _ = _
      rw [s_189i, o_b1_s, q_bz, if_neg hx]
theorem op_price {I : ai_I} {t L : Nat} (h : ST I) (x y : Int32) : OPw I (m_141 1 x y I (Rc t) (Gc L)) (fun I1 => m_242 75 x y I1 (Rc t) (Gc L)) := by
  obtain ⟨s1, s2, s3, s4, s5, s6⟩ := h
  have j7 : (7 : Int64) = (nI 7).toInt64 ∧ (-1000 : Int64) = (-1000 : Int32).toInt64 ∧ (1000 : Int64) = (nI 1000).toInt64 := by decide +kernel
  rcases x_cases x (n := 7) (by decide) with ⟨e, he, rfl⟩ | hx
  · by_cases hy : (-1000 : Int32) ≤ y ∧ y ≤ nI 1000
    · refine ⟨I 4 e, va_up I 4 (va_up (I 4) e y), va_up (va_up I 4 (va_up (I 4) e y)) 76 (va_up (I 76) (1032 + e) y), ?_, ?_, ?_, ?_, up_ne (by decide)⟩
      · unfold m_141 m_97
        rw [q_n0 (by omega), q_leF (by decide) (by omega), if_neg (Int32.not_lt.2 hy.1), if_pos hy.2, r_1_0, k_2, o_g_t, r_2_1, g_4 (by omega), o_g_t, o_b1_s, q_n0 (by omega), q_leF (by decide) (by omega), o_g_t, o_b1_s, i_cl (by omega)]
        rfl
      · show m_242 75 (nI e) y (va_up I 4 (va_up (I 4) e y)) (Rc t) (Gc L) = _
        unfold m_242
        rw [j_lit.2.1, j7.1, j7.2.1, j7.2.2, s_189i, s_189i, o_b1_s, q_bz, if_pos ⟨nI_le (by omega) (by omega), nI_le he (by omega)⟩, o_b1_s, q_bz, if_pos hy, r_75_0, i_add, g_76 (by omega), o_g_t, o_b1_s, o_g_t, o_b1_s, i_cl (by omega), up_ne (by decide), (s3 e (by omega)).1]
      · have e2 : ∀ k, ¬ k = 1032 + e → (va_up (va_up I 4 (va_up (I 4) e y)) 76 (va_up (I 76) (1032 + e) y)) 76 k = I 76 k := fun k hk => by
          rw [up_eq, up_ne hk]
        have e1 : ∀ c, ¬ c = 4 → ¬ c = 76 → (va_up (va_up I 4 (va_up (I 4) e y)) 76 (va_up (I 76) (1032 + e) y)) c = I c := fun c h1 h2 => by
          rw [up_ne h2, up_ne h1]
        refine ⟨ST1_of (fun c h1 h2 => e1 c (by omega) (by omega)) (fun k hk => e2 k (by omega)) s1, ST2_of (by rw [e1 _ (by decide) (by decide)]) (by rw [e1 _ (by decide) (by decide)]) (fun c h1 h2 => e1 c (by omega) (by omega)) (fun k h1 h2 => e2 k (by omega)) s2, fun e3 he3 => ?_, XR_of (by rw [e1 _ (by decide) (by decide)]) (e2 _ (by omega)) s4, PA_of (by rw [e1 _ (by decide) (by decide)]) (e1 _ (by decide) (by decide)) (fun k h1 h2 => e2 k (by omega)) s5, TA_of (by rw [e1 _ (by decide) (by decide)]) (by rw [e1 _ (by decide) (by decide)]) (e1 _ (by decide) (by decide)) (e1 _ (by decide) (by decide)) s6⟩
        have h4 : (va_up (va_up I 4 (va_up (I 4) e y)) 76 (va_up (I 76) (1032 + e) y)) 4 = va_up (I 4) e y := by
          rw [up_ne (by decide), up_eq]
        rw [h4, up_eq]
        by_cases h5 : e3 = e
        · subst h5
          rw [up_eq, up_eq]
          exact ⟨rfl, hy.1, hy.2⟩
        · rw [up_ne h5, up_ne (by omega)]
          exact s3 e3 he3
      · rw [up_ne (by decide)]
    · refine ⟨-2147483648, I, I, ?_, ?_, ⟨s1, s2, s3, s4, s5, s6⟩, rfl, rfl⟩
      · unfold m_141
        rw [q_n0 (by omega), q_leF (by decide) (by omega)]
        by_cases h1 : y < (-1000 : Int32)
        · rw [if_pos h1]
        · rw [if_neg h1, if_neg (fun h2 => hy ⟨Int32.not_lt.1 h1, h2⟩)]
      · show m_242 75 (nI e) y I (Rc t) (Gc L) = _
        unfold m_242
        rw [j_lit.2.1, j7.1, j7.2.1, j7.2.2, s_189i, s_189i, o_b1_s, q_bz, if_pos ⟨nI_le (by omega) (by omega), nI_le he (by omega)⟩, o_b1_s, q_bz, if_neg hy]
  · refine ⟨-2147483648, I, I, ?_, ?_, ⟨s1, s2, s3, s4, s5, s6⟩, rfl, rfl⟩
    · unfold m_141
      by_cases h1 : x < 0
      · rw [if_pos h1]
      · rw [if_neg h1]
        by_cases h2 : nI 8 ≤ x
        · rw [if_pos h2]
        · exact absurd ⟨Int32.not_lt.1 h1, (i_ltp (m := 8) (by decide) (by decide) x).1 (Int32.not_le.1 h2)⟩ hx
    · show m_242 75 x y I (Rc t) (Gc L) = _
      unfold m_242
      rw [j_lit.2.1, j7.1, s_189i, o_b1_s, q_bz, if_neg hx]
theorem g_3 {L i : Nat} (hi : i < 4) : o_in (Gc L) 15 3 (nI i) = true := gi (n := 4) rfl rfl hi (by decide)
theorem r_3 {t i : Nat} (hi : i < 4) : Rc t 3 i = 6 + 4 * i := by
  match i, hi with
  | 0, _ => rfl
  | 1, _ => rfl
  | 2, _ => rfl
  | 3, _ => rfl
theorem c_99 {I : ai_I} {t L : Nat} (h : ST1 I) : m_99 2 I (Rc t) (Gc L) = some (nI ((((BL (FV I 0)).length + (BL (FV I 1)).length) + (BL (FV I 2)).length) + (BL (FV I 3)).length)) := by
  unfold m_99
  refine lp_fd_s1 (fun k a => (nI a, nI k)) (fun k a => a + (BL (FV I k)).length) (fun a => nI a) (fun _ _ => True) 4 0 ?_ ?_ trivial (by decide) ?_
  · intro k a hk _
    refine ⟨trivial, ?_⟩
    show m_99_b4 2 I (Rc t) (Gc L) (nI a) (nI k) = _
    obtain ⟨n, r, hW, hC, -, -⟩ := h k hk
    unfold m_99_b4
    rw [q_leF (by decide) hk, r_2_0, g_3 hk, o_g_t, i_cl (by omega), r_3 hk, v_kd (vc_s hk), o_g_t, hC.2.2.1, i_add, o_b1_s, i_add, o_b1_s]
  · intro a _
    show m_99_b4 2 I (Rc t) (Gc L) (nI a) (nI 4) = _
    unfold m_99_b4
    rw [q_leT (by decide) (Nat.le_refl _)]
  · show some (nI (fd (fun k a => a + (BL (FV I k)).length) [0, 1, 2, 3] 0)) = _
    unfold fd fd fd fd fd
    rw [Nat.zero_add]
theorem op_count {I : ai_I} {t L : Nat} (h : ST I) (x : Int32) : OPr (m_178 1 x I (Rc t) (Gc L)) (m_327 75 x I (Rc t) (Gc L)) := by
  obtain ⟨n, hn, h1, h2, -⟩ := h.2.2.2.2.2
  obtain ⟨y, hy, h3, h4⟩ := h.2.2.2.1
  unfold m_178 m_327
  by_cases c0 : x = 0
  · rw [if_pos c0, if_pos c0, h1, h2]
    exact ⟨_, rfl, rfl⟩
  · rw [if_neg c0, if_neg c0]
    by_cases c1 : x = 1
    · rw [if_pos c1, if_pos (show x = nI 1 from c1), r_1_0, k_2, o_g_t, r_75_0, g_76 (by decide), o_g_t, i_cl (by decide), h3, h4]
      exact ⟨_, rfl, rfl⟩
    · rw [if_neg c1, if_neg (show ¬ x = nI 1 from c1)]
      by_cases c2 : x = 2
      · rw [if_pos c2, if_pos (show x = nI 2 from c2), r_1_0, k_2, o_g_t, c_99 h.1, s_204 (by decide), s_204 (by decide), s_204 (by decide), s_204 (by decide), o_b1_s, o_b1_s, o_b1_s, o_b1_s, o_b1_s, i_add, i_add, i_add]
        exact ⟨_, rfl, rfl⟩
      · rw [if_neg c2, if_neg (show ¬ x = nI 2 from c2)]
        exact ⟨_, rfl, rfl⟩
