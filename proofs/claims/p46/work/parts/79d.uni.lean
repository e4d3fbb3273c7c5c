/-! Out of whole's part 79d.uni, by wip/p46/extract.py. -/
def uni (n r k : Nat) : Int32 := if k < 2 ^ n ∧ pc k = r then nI 0 else NO
theorem c_43 {I J : ai_I} {t n r : Nat} {L : ai_G} (hn : n ≤ 8) (hr : r ≤ 8) (h : MC I J n r (fun _ => NO)) : wp (m_32 49 J (Rc t) (Gc L)) (fun K => MC I K n r (uni n r)) := by
  have h8 := p2_le hn
  unfold m_32
  refine wp_s1 (wp_lp (fun i s => s.1 = nI i ∧ MC I s.2 n r (fun k => if k < i then uni n r k else NO)) 0 (2 ^ n) (Nat.zero_le _) (by omega) ⟨rfl, MC_cong h (fun k _ => (if_neg (Nat.not_lt_zero _)).symm)⟩ ?_ ?_)
  · rintro i ⟨s, M⟩ hi ⟨g1, g2⟩
    dsimp only at g1 g2
    subst g1
    have hp := pc_le i
    unfold m_32_b2
    dsimp only
    rw [r_49_0, k_50, o_g_t, c_118 hn g2.2.1, o_b1_s, if_neg (nI_ge hi (by omega)), s_331 (by omega), o_b1_s]
    by_cases c : pc i = r
    · rw [if_pos (show nI (pc i) = M 50 1 by rw [g2.2.2.1, c])]
      refine wp_b1 (wp_mono (c_113 (t := t) (L := L) (k := i) (x := nI 0) g2 (by omega)) ?_)
      intro K hK
      rw [i_add, o_b1_s, wp_s, lq_l]
      refine ⟨rfl, MC_cong hK (fun k hk => ?_)⟩
      by_cases e : k = i
      · rw [e, up_eq, if_neg (Nat.lt_irrefl _), mx_no, if_pos (by omega)]
        exact (if_pos ⟨hi, c⟩).symm
      · rw [up_ne e]
        by_cases e2 : k < i
        · rw [if_pos e2, if_pos (by omega)]
        · rw [if_neg e2, if_neg (by omega)]
    · rw [if_neg (show ¬ nI (pc i) = M 50 1 by rw [g2.2.2.1, i_eq (by omega) (by omega)]; exact c), i_add, o_b1_s, wp_s, lq_l]
      refine ⟨rfl, MC_cong g2 (fun k hk => ?_)⟩
      by_cases e : k = i
      · rw [e, if_neg (Nat.lt_irrefl _), if_pos (by omega)]
        exact (if_neg (fun h => c h.2)).symm
      · by_cases e2 : k < i
        · rw [if_pos e2, if_pos (by omega)]
        · rw [if_neg e2, if_neg (by omega)]
  · rintro ⟨s, M⟩ ⟨g1, g2⟩
    dsimp only at g1 g2
    subst g1
    unfold m_32_b2
    dsimp only
    rw [r_49_0, k_50, o_g_t, c_118 hn g2.2.1, o_b1_s, if_pos (Int32.le_refl _), wp_s, lq_r]
    refine ⟨M, rfl, MC_cong g2 (fun k hk => ?_)⟩
    by_cases c : k < 2 ^ n
    · exact if_pos c
    · rw [if_neg c]
      exact (if_neg (fun h => c h.1)).symm
