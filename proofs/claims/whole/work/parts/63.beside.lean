/-! Call beside: the call. -/
theorem BL_00 {V : Nat → Int32} {c : Nat} (hc : c ∈ BL V) : (BL V).getD 0 0 ≤ c := by
  obtain ⟨j, hj, rfl⟩ := BL_ix hc
  by_cases e : j = 0
  · rw [e]
    exact Nat.le_refl _
  · exact Nat.le_of_lt (BL_mono (show 0 < j by omega) hj)
theorem s_307 {I : ai_I} {t L s n r w : Nat} (hs : s < 4) (hW : WF n r (FV I s)) : wp (o_s1 (lp (fun q => m_307_b44 75 (nI s) I (Rc t) (Gc L) q.1 q.2.1 q.2.2) o_N (nI 0, nI ((BL (FV I s)).getD 0 0), nI 0)) (fun q => m_307_x44_102 75 (nI s) (nI w) I (Rc t) (Gc L) q.1 q.2)) (fun q => ∃ b, mbs (FV I s) b ∧ q = (if nI w = 0 then nI (tks (FV I s) 256 / 2) else if nI w = nI 2 then nI b else nI (bsn (FV I s) b), I)) := by
  have hpos := BL_pos hW
  have hb0 := BL_in hpos
  refine wp_s1 (wp_lp (fun k q => ∃ b, q = (nI (tks (FV I s) k), nI b, nI k) ∧ b ∈ BL (FV I s) ∧ (b < k ∨ b = (BL (FV I s)).getD 0 0) ∧ ∀ c, c ∈ BL (FV I s) → c < k → bsn (FV I s) c ≤ bsn (FV I s) b ∧ (c < b → bsn (FV I s) c < bsn (FV I s) b)) 0 256 (Nat.zero_le _) (by omega) ⟨_, rfl, hb0, Or.inr rfl, fun c _ h9 => absurd h9 (Nat.not_lt_zero _)⟩ ?_ ?_)
  · rintro k _ hk ⟨b, rfl, hb, hbk, hq⟩
    have hb2 := (BL_mem.1 hb).1
    have l1 := bsn_le (FV I s) k
    have l2 := bsn_le (FV I s) b
    simp (disch := omega) only [if_pos, if_neg, o_b1_s, o_b2_s, o_b3_s, o_b4_s, o_s1_s, o_s2_l, o_s2_r, o_g_t, i_add, i_mul, i_sub, i_and, i_or, i_xor, i_sd, i_shl, Nat.one_mul, i_eq, i_lt, i_le, i_n0, i_0le, i_e0, i_0lt, i_le0, i_cl, bz_0, wp_s, lq_l, lq_r, if_true, if_false, ite_not, true_and, and_true, m_307_b44, s_199, s_305]
    rw [tks]
    by_cases c1 : FV I s k = NO
    · rw [if_pos c1, if_neg (fun h9 => h9 c1)]
      simp (disch := omega) only [o_b1_s, o_b2_s, o_b3_s, o_b4_s, o_s1_s, o_s2_l, o_s2_r, o_g_t, i_add, i_mul, i_sub, i_and, i_or, i_xor, i_sd, i_shl, Nat.one_mul, i_eq, i_lt, i_le, i_n0, i_0le, i_e0, i_0lt, i_le0, i_cl, bz_0, wp_s, lq_l, lq_r, if_true, if_false, ite_not, true_and, and_true]
      refine ⟨b, rfl, hb, by omega, fun c hc hck => hq c hc ?_⟩
      have : ¬ c = k := fun h9 => (BL_mem.1 hc).2 (by rw [h9]; exact c1)
      omega
    · have hkB : k ∈ BL (FV I s) := BL_mem.2 ⟨hk, c1⟩
      have h00 := BL_00 hkB
      rw [if_neg c1, if_pos c1]
      split
      · rename_i c2
        simp (disch := omega) only [o_b1_s, o_b2_s, o_b3_s, o_b4_s, o_s1_s, o_s2_l, o_s2_r, o_g_t, i_add, i_mul, i_sub, i_and, i_or, i_xor, i_sd, i_shl, Nat.one_mul, i_eq, i_lt, i_le, i_n0, i_0le, i_e0, i_0lt, i_le0, i_cl, bz_0, wp_s, lq_l, lq_r, if_true, if_false, ite_not, true_and, and_true]
        refine ⟨b, rfl, hb, by omega, fun c hc hck => ?_⟩
        by_cases e : c = k
        · rw [e]
          exact ⟨c2, fun h9 => by omega⟩
        · exact hq c hc (by omega)
      · rename_i c2
        simp (disch := omega) only [o_b1_s, o_b2_s, o_b3_s, o_b4_s, o_s1_s, o_s2_l, o_s2_r, o_g_t, i_add, i_mul, i_sub, i_and, i_or, i_xor, i_sd, i_shl, Nat.one_mul, i_eq, i_lt, i_le, i_n0, i_0le, i_e0, i_0lt, i_le0, i_cl, bz_0, wp_s, lq_l, lq_r, if_true, if_false, ite_not, true_and, and_true]
        refine ⟨k, rfl, hkB, by omega, fun c hc hck => ?_⟩
        by_cases e : c = k
        · rw [e]
          exact ⟨Nat.le_refl _, fun h9 => absurd h9 (Nat.lt_irrefl _)⟩
        · have := (hq c hc (by omega)).1
          exact ⟨by omega, fun _ => by omega⟩
  · rintro _ ⟨b, rfl, hb, hbk, hq⟩
    have hb2 := (BL_mem.1 hb).1
    have ht := tks_le (FV I s) 256
    simp (disch := omega) only [if_pos, if_neg, o_b1_s, o_b2_s, o_b3_s, o_b4_s, o_s1_s, o_s2_l, o_s2_r, o_g_t, i_add, i_mul, i_sub, i_and, i_or, i_xor, i_sd, i_shl, Nat.one_mul, i_eq, i_lt, i_le, i_n0, i_0le, i_e0, i_0lt, i_le0, i_cl, bz_0, wp_s, lq_l, lq_r, if_true, if_false, ite_not, true_and, and_true, m_307_b44]
    unfold m_307_x44_102
    rw [s_305 (by omega) hb2, o_b1_s, pk_div (by omega) (by decide) (by decide)]
    refine ⟨_, ?_, b, ⟨hb, fun c hc => hq c hc (BL_mem.1 hc).1⟩, rfl⟩
    by_cases c1 : nI w = 0
    · rw [if_pos c1, if_pos c1]
    · rw [if_neg c1, if_neg c1]
      by_cases c2 : nI w = nI 2
      · rw [if_pos c2, if_pos c2]
      · rw [if_neg c2, if_neg c2]
theorem op_beside {I : ai_I} {t L : Nat} (h : ST I) (s x : Int32) : OPc I (m_173 1 s x I (Rc t) (Gc L)) (fun I1 => m_307 75 s x I1 (Rc t) (Gc L)) := by
  obtain ⟨l0, l1, l2, l3, -⟩ := lits
  rcases x_cases s (n := 3) (by decide) with ⟨k, hk, rfl⟩ | hs
  · obtain ⟨n, r, hW, hC, hI, hIr⟩ := h.1 k (by omega)
    have hv := vc_s (s := k) (by omega)
    have hl := BL_len hW
    have ec : m_173 1 (nI k) x I (Rc t) (Gc L) = (if x = nI 0 then (o_b1 (m_134 (6 + 4 * k) I (Rc t) (Gc L)) (fun r_49 => some (r_49, I))) else (if x = nI 1 then (o_b2 (m_132 63 (6 + 4 * k) I (Rc t) (Gc L)) (fun r_58 I_58 => some (r_58, I_58))) else (if x = nI 2 then (o_b1 (m_135 (6 + 4 * k) I (Rc t) (Gc L)) (fun r_67 => o_g (o_in (Gc L) 13 (6 + 4 * k + 3) r_67) (some (I (6 + 4 * k + 3) r_67.toNatClampNeg, I)))) else (if x = nI 3 then (o_b1 (m_135 (6 + 4 * k) I (Rc t) (Gc L)) (fun r_78 => o_g (o_in (Gc L) 13 (6 + 4 * k + 3) r_78) (o_b1 (m_133 (6 + 4 * k) (I (6 + 4 * k + 3) r_78.toNatClampNeg) I (Rc t) (Gc L)) (fun r_82 => some (r_82, I))))) else (some ((-1 : Int32), I)))))) := by
      unfold m_173
      rw [r_1_0, k_2, o_g_t, c_96 (by omega), o_b1_s, if_neg (by omega), l0, l1, l2, l3, r_1_11, k_63, o_g_t, v_kd hv, o_g_t, o_g_t, v_rb hv]
    rw [ec]
    have er : ∀ J : ai_I, J 76 = I 76 → m_307 75 (nI k) x J (Rc t) (Gc L) = (if nI 0 ≤ x ∧ x ≤ nI 3 then (if x = nI 1 then (o_b2 (m_306 75 (nI k) J (Rc t) (Gc L)) (fun r_28 I_28 => some (r_28, I_28))) else (o_s1 (lp (fun s => m_307_b44 75 (nI k) J (Rc t) (Gc L) s.1 s.2.1 s.2.2) o_N ((nI 0), nI ((BL (FV I k)).getD 0 0), (nI 0))) (fun t_1 => m_307_x44_102 75 (nI k) x J (Rc t) (Gc L) t_1.1 t_1.2))) else some (-1, J)) := fun J hJ => by
      have hF : FV J k = FV I k := by
        unfold FV
        rw [hJ]
      unfold m_307
      rw [s_200, o_b1_s, q_bz, if_pos (nI_in03 hk), j_lit.2.1, j_lit.2.2, s_189i, o_b1_s, q_bz, s_205 (n := n) (r := r) (by omega) (by rw [hF]; exact hW), o_b1_s, hF]
    rcases x_cases x (n := 3) (by decide) with ⟨w, hw, rfl⟩ | hx
    · have hw4 : w = 0 ∨ w = 1 ∨ w = 2 ∨ w = 3 := by omega
      have hin : nI 0 ≤ nI w ∧ nI w ≤ nI 3 := ⟨nI_le (by omega) (by omega), nI_le hw (by decide)⟩
      by_cases hw1 : w = 1
      · subst hw1
        rw [if_neg (by decide), if_pos rfl]
        obtain ⟨q, q1, q2, o, q3, q4⟩ := c_132 (t := t) (L := L) hv hW hC
        have h76 := q2 76 (by decide) (by decide)
        have hF : FV q.2 k = FV I k := by
          unfold FV
          rw [h76]
        obtain ⟨p, p1, p2, u, p3, p4⟩ := s_306 (I := q.2) (t := t) (L := L) (s := k) (n := n) (r := r) (by omega) (by rw [hF]; exact hW)
        rw [hF] at p4
        have fr : ∀ c, ¬ c = 64 → ¬ c = 66 → ¬ c = 87 → ¬ c = 89 → p.2 c = I c := fun c c1 c2 c3 c4 => (p2 c c3 c4).trans (q2 c c1 c2)
        refine ⟨q.1, q.2, p.2, by rw [q1, o_b2], ?_, ⟨fun c hc => fr c (by omega) (by omega) (by omega) (by omega), fun j _ => by rw [fr 76 (by decide) (by decide) (by decide) (by decide)], fr 77 (by decide) (by decide) (by decide) (by decide), by rw [fr 75 (by decide) (by decide) (by decide) (by decide)], by rw [fr 75 (by decide) (by decide) (by decide) (by decide)], fr 1999 (by decide) (by decide) (by decide) (by decide)⟩, q2 1999 (by decide) (by decide)⟩
        show m_307 75 (nI k) (nI 1) q.2 (Rc t) (Gc L) = _
        rw [er q.2 h76, if_pos hin, if_pos rfl, p1, o_b2, p3, wdS_one p4 q4, ← q3]
      · obtain ⟨q, q1, b, q2, rfl⟩ := s_307 (I := I) (t := t) (L := L) (s := k) (n := n) (r := r) (w := w) (by omega) hW
        have href : m_307 75 (nI k) (nI w) I (Rc t) (Gc L) = some (if nI w = 0 then nI (tks (FV I k) 256 / 2) else if nI w = nI 2 then nI b else nI (bsn (FV I k) b), I) := by
          rw [er I rfl, if_pos hin, if_neg (fun h9 => hw1 (by rw [i_eq (by omega) (by decide)] at h9; exact h9)), q1]
        refine ⟨_, I, I, ?_, href, SAME_rf, rfl⟩
        have hw3 : w = 0 ∨ w = 2 ∨ w = 3 := by omega
        rcases hw3 with rfl | rfl | rfl
        · obtain ⟨z, z1, rfl⟩ := c_134 (t := t) (L := L) hv hW hC
          rw [if_pos rfl, z1, o_b1_s, if_pos (by decide)]
        · obtain ⟨z, z1, p, hp, rfl, z2⟩ := c_135 (t := t) (L := L) hv hW hC
          rw [if_neg (by decide), if_neg (by decide), if_pos rfl, z1, o_b1_s, v_gb hv (by omega), o_g_t, i_cl (by omega), hC.2.2.2.2.2 p hp, if_neg (by decide), if_pos rfl, mbs_one q2 z2]
        · obtain ⟨z, z1, p, hp, rfl, z2⟩ := c_135 (t := t) (L := L) hv hW hC
          rw [if_neg (by decide), if_neg (by decide), if_neg (by decide), if_pos rfl, z1, o_b1_s, v_gb hv (by omega), o_g_t, i_cl (by omega), hC.2.2.2.2.2 p hp, c_133 hv hW hC (BL_in hp), o_b1_s, if_neg (by decide), if_neg (by decide), mbs_one q2 z2]
    · have hne : ∀ j, j ≤ 3 → ¬ x = nI j := fun j hj h9 => hx (by rw [h9]; exact ⟨nI_le (by omega) (by omega), nI_le hj (by decide)⟩)
      refine ⟨-1, I, I, ?_, ?_, SAME_rf, rfl⟩
      · rw [if_neg (hne 0 (by omega)), if_neg (hne 1 (by omega)), if_neg (hne 2 (by omega)), if_neg (hne 3 (by omega))]
      · show m_307 75 (nI k) x I (Rc t) (Gc L) = _
        rw [er I rfl, if_neg hx]
  · refine ⟨-1, I, I, ?_, ?_, SAME_rf, rfl⟩
    · unfold m_173
      rw [r_1_0, k_2, o_g_t, c_96o hs, o_b1_s, if_pos rfl]
    · show m_307 75 s x I (Rc t) (Gc L) = _
      unfold m_307
      rw [s_200, o_b1_s, q_bz, if_neg hs]
