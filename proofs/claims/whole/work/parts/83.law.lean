/-! The law: its loop. Printed by wip/whole/loop.py. -/
theorem law_b {L t i : Nat} {I : ai_I} {J : ai_J} {xs : Nat → Int32} (hL : L ≤ 3072) (hi : 6 * i + 6 ≤ L) (h : ST I) (hx : I 1999 = xs) : wp (m_333_b18 1 75 (Gc L) (nI (6 * i)) I J (Rc t)) (lq (LQ xs (nI (6 * i))) (fun _ : (ai_I × ai_J × ai_R) ⊕ (ai_I × ai_J × ai_R) => False)) := by
  have hil : ∀ k, k < 6 → o_il (Gc L) (nI (6 * i) + nI k) = true := fun k hk => by
    unfold o_il
    rw [i_add, i_cl (by omega), show (Gc L).2.1 1999 = L from rfl, decide_eq_true (nI_pos (by omega)), decide_eq_true (show 6 * i + k < L by omega)]
    rfl
  have h0 : o_il (Gc L) (nI (6 * i)) = true := by
    have := hil 0 (by decide)
    rw [i_add] at this
    exact this
  have h1 := hil 1 (by decide)
  have h2 := hil 2 (by decide)
  have h3 := hil 3 (by decide)
  have h4 := hil 4 (by decide)
  have h5 := hil 5 (by decide)
  unfold m_333_b18
  rw [show (Gc L).2.1 1999 = L from rfl, if_neg (show ¬ Int32.ofNat L - nI 6 < nI (6 * i) by
    show ¬ nI L - nI 6 < nI (6 * i)
    rw [i_sub (by omega)]
    exact nI_nlt (by omega) (by omega)), h0, o_g_t, o_b1_s]
  generalize I 1999 (nI (6 * i)).toNatClampNeg &&& nI 63 = d
  generalize hv : nI (6 * i) = v at h1 h2 h3 h4 h5 ⊢
  by_cases c0 : d = (0 : Int32)
  · rw [if_pos c0]
    exact lc_feed h hx h1 h2 h3 h4 h5
  rw [if_neg c0]
  by_cases c1 : d = (1 : Int32)
  · rw [if_pos c1]
    exact lc_orders h hx h1
  rw [if_neg c1]
  by_cases c2 : d = (2 : Int32)
  · rw [if_pos c2]
    exact lc_price h hx h1 h2
  rw [if_neg c2]
  by_cases c3 : d = (3 : Int32)
  · rw [if_pos c3]
    exact lc_shelf h hx h1 h2
  rw [if_neg c3]
  by_cases c4 : d = (4 : Int32)
  · rw [if_pos c4]
    exact lc_value h hx h1 h2
  rw [if_neg c4]
  by_cases c5 : d = (5 : Int32)
  · rw [if_pos c5]
    exact lc_base h hx h1 h2
  rw [if_neg c5]
  by_cases c6 : d = (6 : Int32)
  · rw [if_pos c6]
    exact lc_fault h hx h1 h2 h3
  rw [if_neg c6]
  by_cases c7 : d = (7 : Int32)
  · rw [if_pos c7]
    exact lc_exchange h hx h1 h2 h3 h4
  rw [if_neg c7]
  by_cases c8 : d = (8 : Int32)
  · rw [if_pos c8]
    exact lc_rank h hx h1 h2
  rw [if_neg c8]
  by_cases c9 : d = (9 : Int32)
  · rw [if_pos c9]
    exact lc_closure h hx h1 h2
  rw [if_neg c9]
  by_cases c10 : d = (10 : Int32)
  · rw [if_pos c10]
    exact lc_circuit h hx h1 h2
  rw [if_neg c10]
  by_cases c11 : d = (11 : Int32)
  · rw [if_pos c11]
    exact lc_greedy h hx h1 h2 h3
  rw [if_neg c11]
  by_cases c12 : d = (12 : Int32)
  · rw [if_pos c12]
    exact lc_arrive h hx h1
  rw [if_neg c12]
  by_cases c13 : d = (13 : Int32)
  · rw [if_pos c13]
    exact lc_initial h hx h1 h2
  rw [if_neg c13]
  by_cases c14 : d = (14 : Int32)
  · rw [if_pos c14]
    exact lc_space h hx h1
  rw [if_neg c14]
  by_cases c15 : d = (15 : Int32)
  · rw [if_pos c15]
    exact lc_failing h hx h1 h2
  rw [if_neg c15]
  by_cases c16 : d = (16 : Int32)
  · rw [if_pos c16]
    exact lc_spanned h hx h1 h2
  rw [if_neg c16]
  by_cases c17 : d = (17 : Int32)
  · rw [if_pos c17]
    exact lc_both h hx h1 h2 h3
  rw [if_neg c17]
  by_cases c18 : d = (18 : Int32)
  · rw [if_pos c18]
    exact lc_potential h hx h1 h2 h3
  rw [if_neg c18]
  by_cases c19 : d = (19 : Int32)
  · rw [if_pos c19]
    exact lc_together h hx h1 h2
  rw [if_neg c19]
  by_cases c20 : d = (20 : Int32)
  · rw [if_pos c20]
    exact lc_sized h hx h1 h2
  rw [if_neg c20]
  by_cases c21 : d = (21 : Int32)
  · rw [if_pos c21]
    exact lc_tutte h hx h1 h2 h3
  rw [if_neg c21]
  by_cases c22 : d = (22 : Int32)
  · rw [if_pos c22]
    exact lc_share h hx h1 h2 h3
  rw [if_neg c22]
  by_cases c23 : d = (23 : Int32)
  · rw [if_pos c23]
    exact lc_component h hx h1 h2
  rw [if_neg c23]
  by_cases c24 : d = (24 : Int32)
  · rw [if_pos c24]
    exact lc_quotient h hx h1 h2
  rw [if_neg c24]
  by_cases c25 : d = (25 : Int32)
  · rw [if_pos c25]
    exact lc_gap h hx h1 h2 h3
  rw [if_neg c25]
  by_cases c26 : d = (26 : Int32)
  · rw [if_pos c26]
    exact lc_tips h hx h1 h2
  rw [if_neg c26]
  by_cases c27 : d = (27 : Int32)
  · rw [if_pos c27]
    exact lc_stairs h hx h1 h2 h3 h4
  rw [if_neg c27]
  by_cases c28 : d = (28 : Int32)
  · rw [if_pos c28]
    exact lc_told h hx h1 h2
  rw [if_neg c28]
  by_cases c29 : d = (29 : Int32)
  · rw [if_pos c29]
    exact lc_onto h hx h1 h2 h3
  rw [if_neg c29]
  by_cases c30 : d = (30 : Int32)
  · rw [if_pos c30]
    exact lc_binary h hx h1
  rw [if_neg c30]
  by_cases c31 : d = (31 : Int32)
  · rw [if_pos c31]
    exact lc_shared h hx h1 h2 h3 h4
  rw [if_neg c31]
  by_cases c32 : d = (32 : Int32)
  · rw [if_pos c32]
    exact lc_game h hx h1 h2
  rw [if_neg c32]
  by_cases c33 : d = (33 : Int32)
  · rw [if_pos c33]
    exact lc_far h hx h1 h2
  rw [if_neg c33]
  by_cases c34 : d = (34 : Int32)
  · rw [if_pos c34]
    exact lc_beside h hx h1 h2
  rw [if_neg c34]
  by_cases c35 : d = (35 : Int32)
  · rw [if_pos c35]
    exact lc_past h hx h1 h2
  rw [if_neg c35]
  by_cases c36 : d = (36 : Int32)
  · rw [if_pos c36]
    exact lc_walk h hx h1 h2 h3
  rw [if_neg c36]
  by_cases c37 : d = (37 : Int32)
  · rw [if_pos c37]
    exact lc_drawn h hx h1 h2
  rw [if_neg c37]
  by_cases c38 : d = (38 : Int32)
  · rw [if_pos c38]
    exact lc_seed h hx h1
  rw [if_neg c38]
  by_cases c39 : d = (39 : Int32)
  · rw [if_pos c39]
    exact lc_count h hx h1
  rw [if_neg c39]
  by_cases c40 : d = (40 : Int32)
  · rw [if_pos c40]
    exact lc_keep h hx
  rw [if_neg c40]
  by_cases c41 : d = (41 : Int32)
  · rw [if_pos c41]
    exact lc_undo h hx
  rw [if_neg c41]
  by_cases c42 : d = (42 : Int32)
  · rw [if_pos c42]
    exact lc_check h hx h1
  rw [if_neg c42]
  rw [o_b1_s, wp_s, lq_l]
  exact ⟨rfl, h, hx, t, rfl⟩
theorem law_l {L t : Nat} {I : ai_I} {J : ai_J} {xs : Nat → Int32} (hL : L ≤ 3072) (h : ST I) (hx : I 1999 = xs) : o_s2 (lp (fun s => m_333_b18 1 75 (Gc L) s.1 s.2.1 s.2.2.1 s.2.2.2) o_N ((nI 0), I, J, Rc t)) (fun t => m_333_x18_281 t.1 t.2.1 t.2.2) (fun t => m_333_x18_1717 t.1 t.2.1 t.2.2) = some (nI 1) := by
  have key : wp (o_s2 (lp (fun s => m_333_b18 1 75 (Gc L) s.1 s.2.1 s.2.2.1 s.2.2.2) o_N ((nI 0), I, J, Rc t)) (fun t => m_333_x18_281 t.1 t.2.1 t.2.2) (fun t => m_333_x18_1717 t.1 t.2.1 t.2.2)) (fun r => r = nI 1) := by
    refine wp_s2 (wp_lp (fun i s => s.1 = nI (6 * i) ∧ ST s.2.1 ∧ s.2.1 1999 = xs ∧ ∃ t, s.2.2.2 = Rc t) 0 (L / 6) (Nat.zero_le _) (by omega) ⟨rfl, h, hx, t, rfl⟩ ?_ ?_)
    · rintro i ⟨v, K, W, R⟩ hi ⟨g1, g2, g3, t2, g4⟩
      dsimp only at g1 g2 g3 g4 ⊢
      subst g1
      subst g4
      refine wp_mono (law_b (t := t2) (J := W) hL (by omega) g2 g3) ?_
      rintro (⟨v, K2, W2, R2⟩ | q) hq
      · obtain ⟨q1, q2, q3, q4⟩ := hq
        rw [lq_l]
        refine ⟨?_, q2, q3, q4⟩
        dsimp only at q1 ⊢
        rw [q1, i_add, show 6 * i + 6 = 6 * (i + 1) by omega]
      · exact hq.elim
    · rintro ⟨v, K, W, R⟩ ⟨g1, g2, g3, t2, g4⟩
      dsimp only at g1 g2 g3 g4 ⊢
      subst g1
      subst g4
      have hlt : Int32.ofNat ((Gc L).2.1 1999) - nI 6 < nI (6 * (L / 6)) := by
        show nI L - nI 6 < nI (6 * (L / 6))
        rw [Int32.lt_iff_toInt_lt, Int32.toInt_sub, nI_toInt (by omega), nI_toInt (by omega), nI_toInt (by omega), Int.bmod_eq_of_le (by omega) (by omega)]
        omega
      unfold m_333_b18
      rw [if_pos hlt, wp_s, lq_r, lq_r]
      unfold m_333_x18_1717
      rw [wp_s]
  obtain ⟨a, e, ha⟩ := key
  rw [e, ha]
