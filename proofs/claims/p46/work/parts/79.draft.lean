/-! Out of whole's part 79.draft, by wip/p46/extract.py. -/
theorem v50 : 50 ∈ VC := by decide
/-- several values for one set: the greatest -/
theorem no_le (x : Int32) : NO ≤ x := by
  rw [Int32.le_iff_toInt_le, show NO.toInt = -2147483648 by decide]
  exact Int32.le_toInt x
theorem mx_no (x : Int32) : mx NO x = x := if_pos (no_le x)
/-- the class holds the draft V, opened for n and r -/
def MC (I J : ai_I) (n r : Nat) (V : Nat → Int32) : Prop := (∀ c, ¬ c = 50 → ¬ c = 51 → J c = I c) ∧ J 50 0 = nI n ∧ J 50 1 = nI r ∧ ∀ k, k < 256 → J 51 k = V k
theorem c_112 {I : ai_I} {t n r : Nat} {L : ai_G} : wp (m_79 50 (nI n) (nI r) I (Rc t) (Gc L)) (fun J => MC I J n r (fun _ => NO)) := by
  unfold m_79
  rw [o_b1_s, o_b1_s, o_b1_s]
  obtain ⟨M, m1, m2, m3⟩ := c_332 (L := L) (I := va_up (va_up (va_up I 50 (va_up (I 50) 0 (nI n))) 50 (va_up ((va_up I 50 (va_up (I 50) 0 (nI n))) 50) 1 (nI r))) 50 (va_up ((va_up (va_up I 50 (va_up (I 50) 0 (nI n))) 50 (va_up ((va_up I 50 (va_up (I 50) 0 (nI n))) 50) 1 (nI r))) 50) 2 (nI 0))) (a := 51) (n := 256) (x := -2147483648) rfl rfl (by decide)
  rw [r_50_3, m1, o_b1_s, wp_s]
  refine ⟨fun c c1 c2 => by rw [m2 c c2, up_ne c1, up_ne c1, up_ne c1], ?_, ?_, fun k hk => m3 k hk⟩
  · rw [m2 50 (by decide), up_eq, up_ne (by decide), up_eq, up_ne (by decide), up_eq, up_eq]
  · rw [m2 50 (by decide), up_eq, up_ne (by decide), up_eq, up_eq]
theorem c_113 {I J : ai_I} {t n r k : Nat} {L : ai_G} {V : Nat → Int32} {x : Int32} (h : MC I J n r V) (hk : k < 256) : wp (m_80 50 (nI k) x J (Rc t) (Gc L)) (fun K => MC I K n r (va_up V k (mx (V k) x))) := by
  obtain ⟨h1, h2, h3, h4⟩ := h
  unfold m_80
  rw [if_neg (nI_pos (by omega)), if_neg (nI_ge hk (by decide)), v_rv v50, v_gv v50 hk, o_g_t, o_b1_s, o_g_t, i_cl (by omega), o_b1_s, wp_s]
  refine ⟨fun c c1 c2 => by rw [up_ne c2]; exact h1 c c1 c2, by rw [up_ne (by decide)]; exact h2, by rw [up_ne (by decide)]; exact h3, fun j hj => ?_⟩
  rw [up_eq]
  by_cases e : j = k
  · rw [e, up_eq, up_eq, h4 k hk]
    exact mx_lt _ _
  · rw [up_ne e, up_ne e]
    exact h4 j hj
/-- whether a draft can stand -/
def okd (V : Nat → Int32) : Prop := (∃ k, k < 256 ∧ V k ≠ NO) ∧ ∀ k, k < 256 → V k ≠ NO → -1000000 ≤ V k ∧ V k ≤ 1000000
/-- what a draft's bases are -/
def DW (n r : Nat) (V : Nat → Int32) : Prop := 2 ≤ n ∧ n ≤ 8 ∧ 1 ≤ r ∧ r < n ∧ ∀ k, k < 256 → V k ≠ NO → k < 2 ^ n ∧ pc k = r
theorem DW_WF {n r : Nat} {V : Nat → Int32} (h : DW n r V) (h2 : okd V) : WF n r V := ⟨h.1, h.2.1, h.2.2.1, h.2.2.2.1, fun k hk hV => ⟨(h.2.2.2.2 k hk hV).1, (h.2.2.2.2 k hk hV).2, h2.2 k hk hV⟩, h2.1⟩
theorem c_42 {I J : ai_I} {t n r : Nat} {L : ai_G} {V : Nat → Int32} (h : MC I J n r V) (hD : DW n r V) : wp (m_31 49 J (Rc t) (Gc L)) (fun q => (∀ c, ¬ c = 50 → ¬ c = 51 → ¬ c = 52 → ¬ c = 53 → q.2 c = I c) ∧ (q.1 = nI 1 ∧ okd V ∧ CS q.2 50 n r V ∨ q.1 = nI 0 ∧ ¬ okd V)) := by
  obtain ⟨h1, h2, h3, h4⟩ := h
  unfold m_31
  refine wp_s2 (wp_lp (fun i s => ∃ y, s = (nI y, nI i) ∧ y ≤ 1 ∧ (y = 1 ↔ ∃ k, k < i ∧ V k ≠ NO) ∧ ∀ k, k < i → V k ≠ NO → -1000000 ≤ V k ∧ V k ≤ 1000000) 0 256 (Nat.zero_le _) (by omega) ⟨0, rfl, by omega, ⟨fun h => absurd h (by omega), fun ⟨k, hk, _⟩ => absurd hk (Nat.not_lt_zero _)⟩, fun k hk => absurd hk (Nat.not_lt_zero _)⟩ ?_ ?_)
  · rintro i s hi ⟨y, rfl, y1, y2, y3⟩
    have hJ := h4 i hi
    have bad : ¬ (-1000000 ≤ V i ∧ V i ≤ 1000000) → V i ≠ NO → wp (m_31_x4_41 J) (fun q => (∀ c, ¬ c = 50 → ¬ c = 51 → ¬ c = 52 → ¬ c = 53 → q.2 c = I c) ∧ (q.1 = nI 1 ∧ okd V ∧ CS q.2 50 n r V ∨ q.1 = nI 0 ∧ ¬ okd V)) := fun hb hV => by
      unfold m_31_x4_41
      rw [wp_s]
      exact ⟨fun c c1 c2 _ _ => h1 c c1 c2, Or.inr ⟨rfl, fun h => hb (h.2 i hi hV)⟩⟩
    unfold m_31_b4
    dsimp only
    rw [if_neg (nI_ge hi (by decide)), r_49_0, k_50, o_g_t, r_50_3, g_51 hi, o_g_t, i_cl (by omega), hJ, o_b1_s]
    by_cases c : V i = NO
    · rw [if_pos c, i_add, o_b1_s, wp_s, lq_l]
      refine ⟨y, rfl, y1, y2.trans ⟨fun ⟨k, k1, k2⟩ => ⟨k, by omega, k2⟩, fun ⟨k, k1, k2⟩ => ?_⟩, fun k k1 k2 => ?_⟩
      · by_cases e : k = i
        · exact absurd c (e ▸ k2)
        · exact ⟨k, by omega, k2⟩
      · by_cases e : k = i
        · exact absurd c (e ▸ k2)
        · exact y3 k (by omega) k2
    · rw [if_neg c]
      by_cases c2 : V i < -1000000
      · rw [if_pos c2, wp_s, lq_r, lq_l]
        exact bad (fun h => Int32.not_le.2 c2 h.1) c
      · rw [if_neg c2]
        by_cases c3 : V i ≤ nI 1000000
        · rw [if_pos c3, i_add, o_b1_s, wp_s, lq_l]
          refine ⟨1, rfl, by omega, ⟨fun _ => ⟨i, by omega, c⟩, fun _ => rfl⟩, fun k k1 k2 => ?_⟩
          by_cases e : k = i
          · rw [e]
            exact ⟨Int32.not_lt.1 c2, c3⟩
          · exact y3 k (by omega) k2
        · rw [if_neg c3, wp_s, lq_r, lq_l]
          exact bad (fun h => c3 h.2) c
  · rintro s ⟨y, rfl, y1, y2, y3⟩
    unfold m_31_b4
    dsimp only
    rw [if_pos (Int32.le_refl _), wp_s, lq_r, lq_r]
    unfold m_31_x4_49
    rw [q_e0 (by omega)]
    have hbz : o_bz (nI y) = true := decide_eq_true (by
      have : y = 0 ∨ y = 1 := by omega
      rcases this with rfl | rfl
      · exact Or.inl rfl
      · exact Or.inr rfl)
    by_cases c : y = 0
    · rw [if_pos c, hbz, o_g_t, wp_s]
      refine ⟨fun c c1 c2 _ _ => h1 c c1 c2, Or.inr ⟨by rw [c], fun h => ?_⟩⟩
      have := y2.2 h.1
      omega
    · have hy : y = 1 := by omega
      have hok : okd V := ⟨y2.1 hy, y3⟩
      rw [if_neg c, r_49_0, k_50, o_g_t]
      refine wp_b1 (wp_mono (c_114 (I := J) (v := 50) (VG_c v50) (DW_WF hD hok) h2 h3 h4) ?_)
      rintro M ⟨m1, m2, m3⟩
      rw [hbz, o_g_t, wp_s]
      exact ⟨fun c c1 c2 c3 c4 => (m2 c c1 c3 c4).trans (h1 c c1 c2), Or.inl ⟨by rw [hy], hok, m1⟩⟩
theorem c_41 {I : ai_I} {t : Nat} {L : ai_G} (n r : Int32) : wp (m_30 49 n r I (Rc t) (Gc L)) (fun q => (q.1 = nI 0 ∧ q.2 = I ∧ ¬ ((nI 2 ≤ n ∧ n ≤ nI 8) ∧ nI 1 ≤ r ∧ r ≤ n - nI 1)) ∨ (q.1 = nI 1 ∧ ∃ a b, a ≤ 8 ∧ 2 ≤ a ∧ 1 ≤ b ∧ b < a ∧ n = nI a ∧ r = nI b ∧ MC I q.2 a b (fun _ => NO))) := by
  unfold m_30
  by_cases c1 : n < nI 2
  · rw [if_pos c1, wp_s]
    exact Or.inl ⟨rfl, rfl, fun h => Int32.not_le.2 c1 h.1.1⟩
  · rw [if_neg c1]
    by_cases c2 : nI 8 < n
    · rw [if_pos c2, wp_s]
      exact Or.inl ⟨rfl, rfl, fun h => Int32.not_le.2 c2 h.1.2⟩
    · rw [if_neg c2]
      by_cases c3 : r < nI 1
      · rw [if_pos c3, wp_s]
        exact Or.inl ⟨rfl, rfl, fun h => Int32.not_le.2 c3 h.2.1⟩
      · rw [if_neg c3]
        by_cases c4 : r ≤ n - nI 1
        · rw [if_pos c4, r_49_0, k_50, o_g_t]
          obtain ⟨a, a1, rfl⟩ : ∃ a, a ≤ 8 ∧ n = nI a := nI_of2 (nI_toInt (by decide)) (fun h => c1 (Int32.lt_of_lt_of_le h (nI_pos' (by decide)))) (Int32.not_lt.1 c2)
          have a2 : 2 ≤ a := by
            rw [i_lt (by omega) (by omega)] at c1
            omega
          rw [i_sub (by omega)] at c4
          obtain ⟨b, b1, rfl⟩ : ∃ b, b ≤ a - 1 ∧ r = nI b := nI_of2 (nI_toInt (by omega)) (fun h => c3 (Int32.lt_of_lt_of_le h (nI_pos' (by decide)))) c4
          have b2 : 1 ≤ b := by
            rw [i_lt (by omega) (by omega)] at c3
            omega
          refine wp_b1 (wp_mono (c_112 (t := t) (L := L) (n := a) (r := b)) ?_)
          intro M hM
          rw [wp_s]
          exact Or.inr ⟨rfl, a, b, a1, a2, b2, by omega, rfl, rfl, hM⟩
        · rw [if_neg c4, wp_s]
          exact Or.inl ⟨rfl, rfl, fun h => c4 h.2.2⟩
