/-! Makers: uniform, initial. -/
def uni (n r k : Nat) : Int32 := if k < 2 ^ n ∧ pc k = r then nI 0 else NO
theorem c_43 {I J : ai_I} {t L n r : Nat} (hn : n ≤ 8) (hr : r ≤ 8) (h : MC I J n r (fun _ => NO)) : wp (m_43 49 J (Rc t) (Gc L)) (fun K => MC I K n r (uni n r)) := by
  have h8 := p2_le hn
  unfold m_43
  refine wp_s1 (wp_lp (fun i s => s.1 = nI i ∧ MC I s.2 n r (fun k => if k < i then uni n r k else NO)) 0 (2 ^ n) (Nat.zero_le _) (by omega) ⟨rfl, MC_cong h (fun k _ => (if_neg (Nat.not_lt_zero _)).symm)⟩ ?_ ?_)
  · rintro i ⟨s, M⟩ hi ⟨g1, g2⟩
    dsimp only at g1 g2
    subst g1
    have hp := pc_le i
    unfold m_43_b2
    dsimp only
    rw [r_49_0, k_50, o_g_t, c_118 hn g2.2.1, o_b1_s, if_neg (nI_ge hi (by omega)), s_331 (by omega), o_b1_s]
    by_cases c : pc i = r
    · rw [if_pos (show nI (pc i) = M 50 1 by rw [g2.2.2.1, c])]
      refine wp_b1 (wp_mono (c_113 (t := t) (L := L) (k := i) (x := nI 0) g2 (by omega)) ?_)
      intro K hK
      rw [i_add, o_b1_s, wp_s, lq_l]
      refine ⟨rfl, MC_cong hK (fun k hk => ?_)⟩
      by_cases e : k = i
      · rw [e, up_eq, if_neg (Nat.lt_irrefl _), mx_no, if_pos (by omega)]
        exact (if_pos ⟨hi, c⟩).symm
      · rw [up_ne e]
        by_cases e2 : k < i
        · rw [if_pos e2, if_pos (by omega)]
        · rw [if_neg e2, if_neg (by omega)]
    · rw [if_neg (show ¬ nI (pc i) = M 50 1 by rw [g2.2.2.1, i_eq (by omega) (by omega)]; exact c), i_add, o_b1_s, wp_s, lq_l]
      refine ⟨rfl, MC_cong g2 (fun k hk => ?_)⟩
      by_cases e : k = i
      · rw [e, if_neg (Nat.lt_irrefl _), if_pos (by omega)]
        exact (if_neg (fun h => c h.2)).symm
      · by_cases e2 : k < i
        · rw [if_pos e2, if_pos (by omega)]
        · rw [if_neg e2, if_neg (by omega)]
  · rintro ⟨s, M⟩ ⟨g1, g2⟩
    dsimp only at g1 g2
    subst g1
    unfold m_43_b2
    dsimp only
    rw [r_49_0, k_50, o_g_t, c_118 hn g2.2.1, o_b1_s, if_pos (Int32.le_refl _), wp_s, lq_r]
    refine ⟨M, rfl, MC_cong g2 (fun k hk => ?_)⟩
    by_cases c : k < 2 ^ n
    · exact if_pos c
    · rw [if_neg c]
      exact (if_neg (fun h => c h.1)).symm
theorem MR_up {I J : ai_I} {n r : Int32} {V : Nat → Int32} {k : Nat} {x : Int32} (h : MR I J n r V) : MR I (va_up J 81 (va_up (J 81) k x)) n r (va_up V k x) := by
  obtain ⟨h1, h2, h3, h4, h5⟩ := h
  refine ⟨fun c c1 c2 c3 => by rw [up_ne c2]; exact h1 c c1 c2 c3, fun j j1 j2 => by rw [up_ne (by decide)]; exact h2 j j1 j2, by rw [up_ne (by decide)]; exact h3, by rw [up_ne (by decide)]; exact h4, fun j hj => ?_⟩
  rw [up_eq]
  by_cases e : j = k
  · rw [e, up_eq, up_eq]
  · rw [up_ne e, up_ne e]
    exact h5 j hj
theorem s_224 {I J : ai_I} {t L n r : Nat} (hn : n ≤ 8) (hr : r ≤ 8) (h1 : ∀ c, ¬ c = 75 → ¬ c = 81 → ¬ c = 82 → J c = I c) (h2 : ∀ j, ¬ j = 18 → ¬ j = 19 → J 75 j = I 75 j) : wp (m_224 75 (nI n) (nI r) J (Rc t) (Gc L)) (fun K => MR I K (nI n) (nI r) (uni n r)) := by
  have h8 := p2_le hn
  unfold m_224
  refine wp_b1 (wp_mono (s_219 (n := nI n) (r := nI r) h1 h2) ?_)
  rintro M0 ⟨hM0, -⟩
  refine wp_s1 (wp_lp (fun i s => s.1 = nI i ∧ MR I s.2 (nI n) (nI r) (fun k => if k < i then uni n r k else NO)) 0 (2 ^ n) (Nat.zero_le _) (by omega) ⟨rfl, MR_cong hM0 (fun k _ => (if_neg (Nat.not_lt_zero _)).symm)⟩ ?_ ?_)
  · rintro i ⟨s, M⟩ hi ⟨g1, g2⟩
    dsimp only at g1 g2
    subst g1
    have hp := pc_le i
    unfold m_224_b8
    dsimp only
    rw [i_shl (by decide) (by omega), Nat.one_mul, if_neg (nI_ge hi (by omega)), s_193 (by omega), o_b1_s, q_eq (by omega) (by omega)]
    by_cases c : pc i = r
    · rw [if_pos c, r_75_16, g_81 (by omega), o_g_t, i_cl (by omega), o_b1_s, i_add, o_b1_s, wp_s, lq_l]
      refine ⟨rfl, MR_cong (MR_up g2) (fun k hk => ?_)⟩
      by_cases e : k = i
      · rw [e, up_eq, if_pos (by omega)]
        exact (if_pos ⟨hi, c⟩).symm
      · rw [up_ne e]
        by_cases e2 : k < i
        · rw [if_pos e2, if_pos (by omega)]
        · rw [if_neg e2, if_neg (by omega)]
    · rw [if_neg c, i_add, o_b1_s, wp_s, lq_l]
      refine ⟨rfl, MR_cong g2 (fun k hk => ?_)⟩
      by_cases e : k = i
      · rw [e, if_neg (Nat.lt_irrefl _), if_pos (by omega)]
        exact (if_neg (fun h => c h.2)).symm
      · by_cases e2 : k < i
        · rw [if_pos e2, if_pos (by omega)]
        · rw [if_neg e2, if_neg (by omega)]
  · rintro ⟨s, M⟩ ⟨g1, g2⟩
    dsimp only at g1 g2
    subst g1
    unfold m_224_b8
    dsimp only
    rw [i_shl (by decide) (by omega), Nat.one_mul, if_pos (Int32.le_refl _), wp_s, lq_r]
    refine ⟨M, rfl, MR_cong g2 (fun k hk => ?_)⟩
    by_cases c : k < 2 ^ n
    · exact if_pos c
    · rw [if_neg c]
      exact (if_neg (fun h => c h.1)).symm
