/-! What is being made: class's cell 50, reference's cell 81. -/
theorem v50 : 50 ∈ VC := by decide
/-- several values for one set: the greatest -/
theorem no_le (x : Int32) : NO ≤ x := by
  rw [Int32.le_iff_toInt_le, show NO.toInt = -2147483648 by decide]
  exact Int32.le_toInt x
theorem mx_no (x : Int32) : mx NO x = x := if_pos (no_le x)
/-- the class holds the draft V, opened for n and r -/
def MC (I J : ai_I) (n r : Nat) (V : Nat → Int32) : Prop := (∀ c, ¬ c = 50 → ¬ c = 51 → J c = I c) ∧ J 50 0 = nI n ∧ J 50 1 = nI r ∧ ∀ k, k < 256 → J 51 k = V k
theorem c_112 {I : ai_I} {t L n r : Nat} : wp (m_112 50 (nI n) (nI r) I (Rc t) (Gc L)) (fun J => MC I J n r (fun _ => NO)) := by
  unfold m_112
  rw [o_b1_s, o_b1_s, o_b1_s]
  obtain ⟨M, m1, m2, m3⟩ := c_332 (L := L) (I := va_up (va_up (va_up I 50 (va_up (I 50) 0 (nI n))) 50 (va_up ((va_up I 50 (va_up (I 50) 0 (nI n))) 50) 1 (nI r))) 50 (va_up ((va_up (va_up I 50 (va_up (I 50) 0 (nI n))) 50 (va_up ((va_up I 50 (va_up (I 50) 0 (nI n))) 50) 1 (nI r))) 50) 2 (nI 0))) (a := 51) (n := 256) (x := -2147483648) rfl rfl (by decide)
  rw [r_50_3, m1, o_b1_s, wp_s]
  refine ⟨fun c c1 c2 => by rw [m2 c c2, up_ne c1, up_ne c1, up_ne c1], ?_, ?_, fun k hk => m3 k hk⟩
  · rw [m2 50 (by decide), up_eq, up_ne (by decide), up_eq, up_ne (by decide), up_eq, up_eq]
  · rw [m2 50 (by decide), up_eq, up_ne (by decide), up_eq, up_eq]
theorem c_113 {I J : ai_I} {t L n r k : Nat} {V : Nat → Int32} {x : Int32} (h : MC I J n r V) (hk : k < 256) : wp (m_113 50 (nI k) x J (Rc t) (Gc L)) (fun K => MC I K n r (va_up V k (mx (V k) x))) := by
  obtain ⟨h1, h2, h3, h4⟩ := h
  unfold m_113
  rw [if_neg (nI_pos (by omega)), if_neg (nI_ge hk (by decide)), v_rv v50, v_gv v50 hk, o_g_t, o_b1_s, o_g_t, i_cl (by omega), o_b1_s, wp_s]
  refine ⟨fun c c1 c2 => by rw [up_ne c2]; exact h1 c c1 c2, by rw [up_ne (by decide)]; exact h2, by rw [up_ne (by decide)]; exact h3, fun j hj => ?_⟩
  rw [up_eq]
  by_cases e : j = k
  · rw [e, up_eq, up_eq, h4 k hk]
    exact mx_lt _ _
  · rw [up_ne e, up_ne e]
    exact h4 j hj
/-- the reference holds the draft -/
def MR (I J : ai_I) (n r : Int32) (V : Nat → Int32) : Prop := (∀ c, ¬ c = 75 → ¬ c = 81 → ¬ c = 82 → J c = I c) ∧ (∀ j, ¬ j = 18 → ¬ j = 19 → J 75 j = I 75 j) ∧ J 75 18 = n ∧ J 75 19 = r ∧ ∀ k, k < 256 → J 81 k = V k
theorem s_219 {I J : ai_I} {t L : Nat} {n r : Int32} (h1 : ∀ c, ¬ c = 75 → ¬ c = 81 → ¬ c = 82 → J c = I c) (h2 : ∀ j, ¬ j = 18 → ¬ j = 19 → J 75 j = I 75 j) : wp (m_219 75 n r J (Rc t) (Gc L)) (fun K => MR I K n r (fun _ => NO) ∧ K 82 = J 82) := by
  unfold m_219
  rw [o_b1_s, o_b1_s]
  refine wp_s1 (wp_lp (fun i s => s.1 = nI i ∧ (∀ c, ¬ c = 75 → ¬ c = 81 → s.2 c = J c) ∧ (∀ j, ¬ j = 18 → ¬ j = 19 → s.2 75 j = J 75 j) ∧ s.2 75 18 = n ∧ s.2 75 19 = r ∧ ∀ k, k < i → s.2 81 k = NO) 0 256 (Nat.zero_le _) (by omega) ⟨rfl, fun c c1 c2 => by dsimp only; rw [up_ne c1, up_ne c1], fun j j1 j2 => by dsimp only; rw [up_eq, up_ne j2, up_eq, up_ne j1], by dsimp only; rw [up_eq, up_ne (by decide), up_eq, up_eq], by dsimp only; rw [up_eq, up_eq], fun k hk => absurd hk (Nat.not_lt_zero _)⟩ ?_ ?_)
  · rintro i ⟨s, M⟩ hi ⟨g1, g2, g3, g4, g5, g6⟩
    dsimp only at g1 g2 g3 g4 g5 g6
    subst g1
    unfold m_219_b12
    dsimp only
    rw [if_neg (nI_ge hi (by decide)), r_75_16, g_81 hi, o_g_t, i_cl (by omega), o_b1_s, i_add, o_b1_s, wp_s, lq_l]
    refine ⟨rfl, fun c c1 c2 => by dsimp only; rw [up_ne c2]; exact g2 c c1 c2, fun j j1 j2 => by dsimp only; rw [up_ne (by decide)]; exact g3 j j1 j2, by dsimp only; rw [up_ne (by decide)]; exact g4, by dsimp only; rw [up_ne (by decide)]; exact g5, fun k hk => ?_⟩
    dsimp only
    rw [up_eq]
    by_cases e : k = i
    · rw [e, up_eq]
    · rw [up_ne e]
      exact g6 k (by omega)
  · rintro ⟨s, M⟩ ⟨g1, g2, g3, g4, g5, g6⟩
    dsimp only at g1 g2 g3 g4 g5 g6
    subst g1
    unfold m_219_b12
    dsimp only
    rw [if_pos (Int32.le_refl _), wp_s, lq_r]
    exact ⟨M, rfl, ⟨fun c c1 c2 c3 => (g2 c c1 c2).trans (h1 c c1 c2 c3), fun j j1 j2 => (g3 j j1 j2).trans (h2 j j1 j2), g4, g5, g6⟩, g2 82 (by decide) (by decide)⟩
theorem s_220 {I J : ai_I} {t L k : Nat} {n r : Int32} {V : Nat → Int32} {x : Int32} (h : MR I J n r V) (hk : k < 256) : wp (m_220 75 (nI k) x J (Rc t) (Gc L)) (fun K => MR I K n r (va_up V k (mx (V k) x)) ∧ K 82 = J 82) := by
  obtain ⟨h1, h2, h3, h4, h5⟩ := h
  have put : V k = NO ∨ V k < x → wp (m_220_j21 75 (nI k) x J (Rc t) (Gc L)) (fun K => MR I K n r (va_up V k (mx (V k) x)) ∧ K 82 = J 82) := fun hx => by
    have hm : mx (V k) x = x := by
      rcases hx with hx | hx
      · rw [hx, mx_no]
      · exact if_pos (Int32.le_of_lt hx)
    unfold m_220_j21
    rw [r_75_16, g_81 hk, o_g_t, i_cl (by omega), o_b1_s, wp_s, hm]
    refine ⟨⟨fun c c1 c2 c3 => by rw [up_ne c2]; exact h1 c c1 c2 c3, fun j j1 j2 => by rw [up_ne (by decide)]; exact h2 j j1 j2, by rw [up_ne (by decide)]; exact h3, by rw [up_ne (by decide)]; exact h4, fun j hj => ?_⟩, up_ne (by decide)⟩
    rw [up_eq]
    by_cases e : j = k
    · rw [e, up_eq, up_eq]
    · rw [up_ne e, up_ne e]
      exact h5 j hj
  unfold m_220
  rw [r_75_16, g_81 hk, o_g_t, i_cl (by omega)]
  by_cases c : V k = NO
  · rw [if_pos (show J 81 k = -2147483648 by rw [h5 k hk]; exact c)]
    exact put (Or.inl c)
  · rw [if_neg (show ¬ J 81 k = -2147483648 by rw [h5 k hk]; exact c), o_g_t]
    by_cases c2 : x ≤ V k
    · rw [if_pos (show x ≤ J 81 k by rw [h5 k hk]; exact c2), wp_s]
      refine ⟨⟨h1, h2, h3, h4, fun j hj => ?_⟩, rfl⟩
      by_cases e : j = k
      · rw [e, up_eq, h5 k hk]
        unfold mx
        by_cases c3 : V k ≤ x
        · rw [if_pos c3]
          exact Int32.le_antisymm c3 c2
        · rw [if_neg c3]
      · rw [up_ne e]
        exact h5 j hj
    · rw [if_neg (show ¬ x ≤ J 81 k by rw [h5 k hk]; exact c2)]
      exact put (Or.inr (Int32.not_le.1 c2))
/-- whether a draft can stand -/
def okd (V : Nat → Int32) : Prop := (∃ k, k < 256 ∧ V k ≠ NO) ∧ ∀ k, k < 256 → V k ≠ NO → -1000000 ≤ V k ∧ V k ≤ 1000000
theorem s_223 {I J : ai_I} {t L : Nat} {n r : Int32} {V : Nat → Int32} (h : MR I J n r V) : wp (m_223 75 J (Rc t) (Gc L)) (yn (okd V ∧ (nI 2 ≤ n ∧ n ≤ nI 8) ∧ nI 1 ≤ r ∧ r ≤ n - nI 1)) := by
  obtain ⟨h1, h2, h3, h4, h5⟩ := h
  have l1 : (-1000000 : Int64) = (-1000000 : Int32).toInt64 := by decide +kernel
  have l2 : (1000000 : Int64) = (1000000 : Int32).toInt64 := by decide +kernel
  have l3 : (2 : Int64) = (nI 2).toInt64 := by decide +kernel
  have l4 : (8 : Int64) = (nI 8).toInt64 := by decide +kernel
  unfold m_223
  refine wp_s2 (wp_lp (fun i s => ∃ y, s = (nI y, nI i) ∧ y ≤ 1 ∧ (y = 1 ↔ ∃ k, k < i ∧ V k ≠ NO) ∧ ∀ k, k < i → V k ≠ NO → -1000000 ≤ V k ∧ V k ≤ 1000000) 0 256 (Nat.zero_le _) (by omega) ⟨0, rfl, by omega, ⟨fun h => absurd h (by omega), fun ⟨k, hk, _⟩ => absurd hk (Nat.not_lt_zero _)⟩, fun k hk => absurd hk (Nat.not_lt_zero _)⟩ ?_ ?_)
  · rintro i s hi ⟨y, rfl, y1, y2, y3⟩
    have hJ := h5 i hi
    unfold m_223_b4
    dsimp only
    rw [if_neg (nI_ge hi (by decide)), r_75_16, g_81 hi, o_g_t, i_cl (by omega)]
    by_cases c : V i = NO
    · rw [if_pos (show J 81 i = -2147483648 by rw [hJ]; exact c), i_add, o_b1_s, wp_s, lq_l]
      refine ⟨y, rfl, y1, y2.trans ⟨fun ⟨k, k1, k2⟩ => ⟨k, by omega, k2⟩, fun ⟨k, k1, k2⟩ => ?_⟩, fun k k1 k2 => ?_⟩
      · by_cases e : k = i
        · exact absurd c (e ▸ k2)
        · exact ⟨k, by omega, k2⟩
      · by_cases e : k = i
        · exact absurd c (e ▸ k2)
        · exact y3 k (by omega) k2
    · rw [if_neg (show ¬ J 81 i = -2147483648 by rw [hJ]; exact c), o_g_t, hJ, l1, l2, s_189i, o_b1_s, q_bz]
      by_cases c2 : -1000000 ≤ V i ∧ V i ≤ 1000000
      · rw [if_pos c2, i_add, o_b1_s, wp_s, lq_l]
        refine ⟨1, rfl, by omega, ⟨fun _ => ⟨i, by omega, c⟩, fun _ => rfl⟩, fun k k1 k2 => ?_⟩
        by_cases e : k = i
        · rw [e]
          exact c2
        · exact y3 k (by omega) k2
      · rw [if_neg c2, wp_s, lq_r, lq_l, m_223_x4_46, wp_s]
        exact Or.inr ⟨rfl, fun h => c2 (h.1.2 i hi c)⟩
  · rintro s ⟨y, rfl, y1, y2, y3⟩
    unfold m_223_b4
    dsimp only
    rw [if_pos (Int32.le_refl _), wp_s, lq_r, lq_r]
    unfold m_223_x4_54
    rw [q_e0 (by omega), h3, h4]
    by_cases c : y = 0
    · rw [if_pos c, wp_s]
      exact Or.inr ⟨rfl, fun h => by have := y2.2 h.1.1; omega⟩
    · have hany := y2.1 (by omega)
      rw [if_neg c, l3, l4, s_189i, o_b1_s, q_bz]
      by_cases c2 : nI 2 ≤ n ∧ n ≤ nI 8
      · rw [if_pos c2, j1_lit, s_189i, o_b1_s, q_bz]
        by_cases c3 : nI 1 ≤ r ∧ r ≤ n - nI 1
        · rw [if_pos c3, wp_s]
          exact Or.inl ⟨rfl, ⟨hany, y3⟩, c2, c3⟩
        · rw [if_neg c3, wp_s]
          exact Or.inr ⟨rfl, fun h => c3 h.2.2⟩
      · rw [if_neg c2, wp_s]
        exact Or.inr ⟨rfl, fun h => c2 h.2.1⟩
/-- what a draft's bases are -/
def DW (n r : Nat) (V : Nat → Int32) : Prop := 2 ≤ n ∧ n ≤ 8 ∧ 1 ≤ r ∧ r < n ∧ ∀ k, k < 256 → V k ≠ NO → k < 2 ^ n ∧ pc k = r
theorem DW_WF {n r : Nat} {V : Nat → Int32} (h : DW n r V) (h2 : okd V) : WF n r V := ⟨h.1, h.2.1, h.2.2.1, h.2.2.2.1, fun k hk hV => ⟨(h.2.2.2.2 k hk hV).1, (h.2.2.2.2 k hk hV).2, h2.2 k hk hV⟩, h2.1⟩
theorem c_42 {I J : ai_I} {t L n r : Nat} {V : Nat → Int32} (h : MC I J n r V) (hD : DW n r V) : wp (m_42 49 J (Rc t) (Gc L)) (fun q => (∀ c, ¬ c = 50 → ¬ c = 51 → ¬ c = 52 → ¬ c = 53 → q.2 c = I c) ∧ (q.1 = nI 1 ∧ okd V ∧ CS q.2 50 n r V ∨ q.1 = nI 0 ∧ ¬ okd V)) := by
  obtain ⟨h1, h2, h3, h4⟩ := h
  unfold m_42
  refine wp_s2 (wp_lp (fun i s => ∃ y, s = (nI y, nI i) ∧ y ≤ 1 ∧ (y = 1 ↔ ∃ k, k < i ∧ V k ≠ NO) ∧ ∀ k, k < i → V k ≠ NO → -1000000 ≤ V k ∧ V k ≤ 1000000) 0 256 (Nat.zero_le _) (by omega) ⟨0, rfl, by omega, ⟨fun h => absurd h (by omega), fun ⟨k, hk, _⟩ => absurd hk (Nat.not_lt_zero _)⟩, fun k hk => absurd hk (Nat.not_lt_zero _)⟩ ?_ ?_)
  · rintro i s hi ⟨y, rfl, y1, y2, y3⟩
    have hJ := h4 i hi
    have bad : ¬ (-1000000 ≤ V i ∧ V i ≤ 1000000) → V i ≠ NO → wp (m_42_x4_41 J) (fun q => (∀ c, ¬ c = 50 → ¬ c = 51 → ¬ c = 52 → ¬ c = 53 → q.2 c = I c) ∧ (q.1 = nI 1 ∧ okd V ∧ CS q.2 50 n r V ∨ q.1 = nI 0 ∧ ¬ okd V)) := fun hb hV => by
      unfold m_42_x4_41
      rw [wp_s]
      exact ⟨fun c c1 c2 _ _ => h1 c c1 c2, Or.inr ⟨rfl, fun h => hb (h.2 i hi hV)⟩⟩
    unfold m_42_b4
    dsimp only
    rw [if_neg (nI_ge hi (by decide)), r_49_0, k_50, o_g_t, r_50_3, g_51 hi, o_g_t, i_cl (by omega), hJ, o_b1_s]
    by_cases c : V i = NO
    · rw [if_pos c, i_add, o_b1_s, wp_s, lq_l]
      refine ⟨y, rfl, y1, y2.trans ⟨fun ⟨k, k1, k2⟩ => ⟨k, by omega, k2⟩, fun ⟨k, k1, k2⟩ => ?_⟩, fun k k1 k2 => ?_⟩
      · by_cases e : k = i
        · exact absurd c (e ▸ k2)
        · exact ⟨k, by omega, k2⟩
      · by_cases e : k = i
        · exact absurd c (e ▸ k2)
        · exact y3 k (by omega) k2
    · rw [if_neg c]
      by_cases c2 : V i < -1000000
      · rw [if_pos c2, wp_s, lq_r, lq_l]
        exact bad (fun h => Int32.not_le.2 c2 h.1) c
      · rw [if_neg c2]
        by_cases c3 : V i ≤ nI 1000000
        · rw [if_pos c3, i_add, o_b1_s, wp_s, lq_l]
          refine ⟨1, rfl, by omega, ⟨fun _ => ⟨i, by omega, c⟩, fun _ => rfl⟩, fun k k1 k2 => ?_⟩
          by_cases e : k = i
          · rw [e]
            exact ⟨Int32.not_lt.1 c2, c3⟩
          · exact y3 k (by omega) k2
        · rw [if_neg c3, wp_s, lq_r, lq_l]
          exact bad (fun h => c3 h.2) c
  · rintro s ⟨y, rfl, y1, y2, y3⟩
    unfold m_42_b4
    dsimp only
    rw [if_pos (Int32.le_refl _), wp_s, lq_r, lq_r]
    unfold m_42_x4_49
    rw [q_e0 (by omega)]
    have hbz : o_bz (nI y) = true := decide_eq_true (by
      have : y = 0 ∨ y = 1 := by omega
      rcases this with rfl | rfl
      · exact Or.inl rfl
      · exact Or.inr rfl)
    by_cases c : y = 0
    · rw [if_pos c, hbz, o_g_t, wp_s]
      refine ⟨fun c c1 c2 _ _ => h1 c c1 c2, Or.inr ⟨by rw [c], fun h => ?_⟩⟩
      have := y2.2 h.1
      omega
    · have hy : y = 1 := by omega
      have hok : okd V := ⟨y2.1 hy, y3⟩
      rw [if_neg c, r_49_0, k_50, o_g_t]
      refine wp_b1 (wp_mono (c_114 (I := J) (v := 50) (VG_c v50) (DW_WF hD hok) h2 h3 h4) ?_)
      rintro M ⟨m1, m2, m3⟩
      rw [hbz, o_g_t, wp_s]
      exact ⟨fun c c1 c2 c3 c4 => (m2 c c1 c3 c4).trans (h1 c c1 c2), Or.inl ⟨by rw [hy], hok, m1⟩⟩
theorem s_221 {I J : ai_I} {t L a : Nat} (ha : a < 12) (h1 : ∀ c, ¬ c = 75 → ¬ c = 81 → ¬ c = 82 → J c = I c) (h2 : ∀ j, ¬ j = 18 → ¬ j = 19 → J 75 j = I 75 j) : wp (m_221 75 (nI a) J (Rc t) (Gc L)) (fun K => MR I K (I 76 (258 * a)) (I 76 (258 * a + 1)) (FV I a)) := by
  have e76 : J 76 = I 76 := h1 76 (by decide) (by decide) (by decide)
  unfold m_221
  rw [s_195 ha, o_b1_s, o_b1_s, s_196 ha, o_b1_s, o_b1_s]
  refine wp_s1 (wp_lp (fun i s => s.1 = nI i ∧ (∀ c, ¬ c = 75 → ¬ c = 81 → s.2 c = J c) ∧ (∀ j, ¬ j = 18 → ¬ j = 19 → s.2 75 j = J 75 j) ∧ s.2 75 18 = I 76 (258 * a) ∧ s.2 75 19 = I 76 (258 * a + 1) ∧ ∀ k, k < i → s.2 81 k = FV I a k) 0 256 (Nat.zero_le _) (by omega) ⟨rfl, fun c c1 c2 => by dsimp only; rw [up_ne c1, up_ne c1], fun j j1 j2 => by dsimp only; rw [up_eq, up_ne j2, up_eq, up_ne j1], by dsimp only; rw [up_eq, up_ne (by decide), up_eq, up_eq, e76], by dsimp only; rw [up_eq, up_eq, up_ne (by decide), e76], fun k hk => absurd hk (Nat.not_lt_zero _)⟩ ?_ ?_)
  · rintro i ⟨s, M⟩ hi ⟨g1, g2, g3, g4, g5, g6⟩
    dsimp only at g1 g2 g3 g4 g5 g6
    subst g1
    have hF : FV M a = FV I a := by
      unfold FV
      rw [g2 76 (by decide) (by decide), e76]
    unfold m_221_b20
    dsimp only
    rw [if_neg (nI_ge hi (by decide)), s_198 ha hi, o_b1_s, hF, r_75_16, g_81 hi, o_g_t, i_cl (by omega), o_b1_s, i_add, o_b1_s, wp_s, lq_l]
    refine ⟨rfl, fun c c1 c2 => by dsimp only; rw [up_ne c2]; exact g2 c c1 c2, fun j j1 j2 => by dsimp only; rw [up_ne (by decide)]; exact g3 j j1 j2, by dsimp only; rw [up_ne (by decide)]; exact g4, by dsimp only; rw [up_ne (by decide)]; exact g5, fun k hk => ?_⟩
    dsimp only
    rw [up_eq]
    by_cases e : k = i
    · rw [e, up_eq]
    · rw [up_ne e]
      exact g6 k (by omega)
  · rintro ⟨s, M⟩ ⟨g1, g2, g3, g4, g5, g6⟩
    dsimp only at g1 g2 g3 g4 g5 g6
    subst g1
    unfold m_221_b20
    dsimp only
    rw [if_pos (Int32.le_refl _), wp_s, lq_r]
    exact ⟨M, rfl, fun c c1 c2 c3 => (g2 c c1 c2).trans (h1 c c1 c2 c3), fun j j1 j2 => (g3 j j1 j2).trans (h2 j j1 j2), g4, g5, g6⟩
theorem c_41 {I : ai_I} {t L : Nat} (n r : Int32) : wp (m_41 49 n r I (Rc t) (Gc L)) (fun q => (q.1 = nI 0 ∧ q.2 = I ∧ ¬ ((nI 2 ≤ n ∧ n ≤ nI 8) ∧ nI 1 ≤ r ∧ r ≤ n - nI 1)) ∨ (q.1 = nI 1 ∧ ∃ a b, a ≤ 8 ∧ 2 ≤ a ∧ 1 ≤ b ∧ b < a ∧ n = nI a ∧ r = nI b ∧ MC I q.2 a b (fun _ => NO))) := by
  unfold m_41
  by_cases c1 : n < nI 2
  · rw [if_pos c1, wp_s]
    exact Or.inl ⟨rfl, rfl, fun h => Int32.not_le.2 c1 h.1.1⟩
  · rw [if_neg c1]
    by_cases c2 : nI 8 < n
    · rw [if_pos c2, wp_s]
      exact Or.inl ⟨rfl, rfl, fun h => Int32.not_le.2 c2 h.1.2⟩
    · rw [if_neg c2]
      by_cases c3 : r < nI 1
      · rw [if_pos c3, wp_s]
        exact Or.inl ⟨rfl, rfl, fun h => Int32.not_le.2 c3 h.2.1⟩
      · rw [if_neg c3]
        by_cases c4 : r ≤ n - nI 1
        · rw [if_pos c4, r_49_0, k_50, o_g_t]
          obtain ⟨a, a1, rfl⟩ : ∃ a, a ≤ 8 ∧ n = nI a := nI_of2 (nI_toInt (by decide)) (fun h => c1 (Int32.lt_of_lt_of_le h (nI_pos' (by decide)))) (Int32.not_lt.1 c2)
          have a2 : 2 ≤ a := by
            rw [i_lt (by omega) (by omega)] at c1
            omega
          rw [i_sub (by omega)] at c4
          obtain ⟨b, b1, rfl⟩ : ∃ b, b ≤ a - 1 ∧ r = nI b := nI_of2 (nI_toInt (by omega)) (fun h => c3 (Int32.lt_of_lt_of_le h (nI_pos' (by decide)))) c4
          have b2 : 1 ≤ b := by
            rw [i_lt (by omega) (by omega)] at c3
            omega
          refine wp_b1 (wp_mono (c_112 (t := t) (L := L) (n := a) (r := b)) ?_)
          intro M hM
          rw [wp_s]
          exact Or.inr ⟨rfl, a, b, a1, a2, b2, by omega, rfl, rfl, hM⟩
        · rw [if_neg c4, wp_s]
          exact Or.inl ⟨rfl, rfl, fun h => c4 h.2.2⟩
