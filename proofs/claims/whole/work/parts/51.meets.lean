/-! The law tested: the class's way and the reference's. -/
theorem c_32 {I : ai_I} {t L v n r c w : Nat} {V : Nat → Int32} (hv : v ∈ VC) (hW : WF n r V) (h : CS I v n r V) (hk : (Gc L).1 c = 13) (hn : (Gc L).2.1 c = 256) (hc : ¬ c = 55) (hT : ∀ k, k < 256 → V k = NO → I c k = NO) (hw : w < 2147483648) : wp (m_32 55 v c (nI w) I (Rc t) (Gc L)) (fun q => ot I q.2 55 ∧ ((∃ f, fnd (I c) w f ∧ q.1 = nI (w + 1) ∧ q.2 55 0 = nI (f / 2048) ∧ q.2 55 1 = nI (f / 8 % 256) ∧ q.2 55 2 = nI (f % 8)) ∨ (q.1 = nI (fln (flt (I c)) 524288) ∧ fln (flt (I c)) 524288 ≤ w))) := by
  have hl := BL_len hW
  have hvv := vc_51 v hv
  unfold m_32
  refine wp_s2 (wp_lpB V (fun p (s : Nat × ai_I) => (nI s.1, nI p, s.2)) (fun k s => ot I s.2 55 ∧ s.1 = fln (flt (I c)) (2048 * k) ∧ s.1 ≤ w) (x0 := (0, I)) hl ⟨fun _ _ => rfl, rfl, Nat.zero_le _⟩ ?_ ?_ ?_)
  · rintro k ⟨m, J⟩ hk2 hV ⟨h1, h2, h3⟩
    refine ⟨h1, ?_, h3⟩
    rw [flt_noA (hT k hk2 hV)]
    exact h2
  · rintro p ⟨m, J⟩ hp ⟨hJ, hm, hmw⟩
    dsimp only at hJ hm hmw
    have hC : CS J v n r V := CS_cong (fun _ _ => rfl) (hJ _ (by omega)) (hJ _ (by omega)) (hJ _ (by omega)) (hJ _ (by omega)) h
    have ha := (BL_at hp).1
    simp (disch := omega) only [if_pos, if_neg, o_b1_s, o_b2_s, o_b3_s, o_b4_s, o_s1_s, o_s2_l, o_s2_r, o_g_t, i_add, i_mul, i_sub, i_and, i_or, i_xor, i_sd, i_shl, Nat.one_mul, i_eq, i_lt, i_le, i_n0, i_0le, i_e0, i_0lt, i_le0, i_cl, bz_0, wp_s, lq_l, lq_r, if_true, if_false, ite_not, true_and, and_true, m_32_b6, v_kd hv, hC.2.2.1]
    refine wp_s2 (wp_lpB V (fun q (s : Nat × ai_I) => (nI s.1, nI q, s.2)) (fun k s => ot I s.2 55 ∧ s.1 = fln (flt (I c)) (2048 * (BL V).getD p 0 + 8 * k) ∧ s.1 ≤ w) (x0 := (m, J)) hl ⟨hJ, hm, hmw⟩ ?_ ?_ ?_)
    · rintro k ⟨m, J⟩ hk2 hV ⟨h1, h2, h3⟩
      refine ⟨h1, ?_, h3⟩
      rw [flt_noB ha hk2 (hT k hk2 hV)]
      exact h2
    · rintro q ⟨m, J⟩ hq ⟨hJ, hm, hmw⟩
      dsimp only at hJ hm hmw
      have hC : CS J v n r V := CS_cong (fun _ _ => rfl) (hJ _ (by omega)) (hJ _ (by omega)) (hJ _ (by omega)) (hJ _ (by omega)) h
      have hb := (BL_at hq).1
      have hJc := hJ c hc
      simp (disch := omega) only [if_pos, if_neg, o_b1_s, o_b2_s, o_b3_s, o_b4_s, o_s1_s, o_s2_l, o_s2_r, o_g_t, i_add, i_mul, i_sub, i_and, i_or, i_xor, i_sd, i_shl, Nat.one_mul, i_eq, i_lt, i_le, i_n0, i_0le, i_e0, i_0lt, i_le0, i_cl, bz_0, wp_s, lq_l, lq_r, if_true, if_false, ite_not, true_and, and_true, m_32_b18, hC.2.2.1, v_rb hv, v_gb hv, hC.2.2.2.2.2]
      rw [← hJc] at hm
      refine wp_b2 (wp_mono (c_33 (I := J) (L := L) hk hn hc ha hb hw hm hmw) ?_)
      rintro ⟨x, K⟩ ⟨hK, hx⟩
      dsimp only at hK hx
      have hIK : ot I K 55 := fun q hq => (hK q hq).trans (hJ q hq)
      rw [hJc] at hx
      rcases hx with ⟨i, hi, hf, hx, e1, e2, e3⟩ | ⟨hx, hxw⟩
      · obtain ⟨f1, f2, f3⟩ := flt_abi ha hb hi
        show wp (if x ≤ nI w then _ else _) _
        rw [hx, if_neg (by rw [i_le (by have := hf.2.2; have := fln_le (flt (I c)) (2048 * (BL V).getD p 0 + 8 * (BL V).getD q 0 + i); omega) hw]; omega)]
        simp (disch := omega) only [o_b1_s, o_b2_s, o_b3_s, o_b4_s, o_s1_s, o_s2_l, o_s2_r, o_g_t, i_add, i_mul, i_sub, i_and, i_or, i_xor, i_sd, i_shl, Nat.one_mul, i_eq, i_lt, i_le, i_n0, i_0le, i_e0, i_0lt, i_le0, i_cl, bz_0, wp_s, lq_l, lq_r, if_true, if_false, ite_not, true_and, and_true, m_32_x18_57, m_32_x6_57]
        exact ⟨hIK, Or.inl ⟨_, hf, by rw [f1]; exact e1, by rw [f2]; exact e2, by rw [f3]; exact e3⟩⟩
      · show wp (if x ≤ nI w then _ else _) _
        rw [hx, if_pos (nI_le hxw hw)]
        simp (disch := omega) only [o_b1_s, o_b2_s, o_b3_s, o_b4_s, o_s1_s, o_s2_l, o_s2_r, o_g_t, i_add, i_mul, i_sub, i_and, i_or, i_xor, i_sd, i_shl, Nat.one_mul, i_eq, i_lt, i_le, i_n0, i_0le, i_e0, i_0lt, i_le0, i_cl, bz_0, wp_s, lq_l, lq_r, if_true, if_false, ite_not, true_and, and_true]
        exact ⟨(fln (flt (I c)) (2048 * (BL V).getD p 0 + 8 * ((BL V).getD q 0 + 1)), K), rfl, hIK, rfl, hxw⟩
    · rintro ⟨m, J⟩ ⟨hJ, hm, hmw⟩
      dsimp only at hJ hm hmw
      have hC : CS J v n r V := CS_cong (fun _ _ => rfl) (hJ _ (by omega)) (hJ _ (by omega)) (hJ _ (by omega)) (hJ _ (by omega)) h
      simp (disch := omega) only [if_pos, if_neg, o_b1_s, o_b2_s, o_b3_s, o_b4_s, o_s1_s, o_s2_l, o_s2_r, o_g_t, i_add, i_mul, i_sub, i_and, i_or, i_xor, i_sd, i_shl, Nat.one_mul, i_eq, i_lt, i_le, i_n0, i_0le, i_e0, i_0lt, i_le0, i_cl, bz_0, wp_s, lq_l, lq_r, if_true, if_false, ite_not, true_and, and_true, m_32_b18, hC.2.2.1, m_32_x18_66]
      exact ⟨(m, J), rfl, hJ, hm, hmw⟩
  · rintro ⟨m, J⟩ ⟨hJ, hm, hmw⟩
    dsimp only at hJ hm hmw
    have hC : CS J v n r V := CS_cong (fun _ _ => rfl) (hJ _ (by omega)) (hJ _ (by omega)) (hJ _ (by omega)) (hJ _ (by omega)) h
    simp (disch := omega) only [if_pos, if_neg, o_b1_s, o_b2_s, o_b3_s, o_b4_s, o_s1_s, o_s2_l, o_s2_r, o_g_t, i_add, i_mul, i_sub, i_and, i_or, i_xor, i_sd, i_shl, Nat.one_mul, i_eq, i_lt, i_le, i_n0, i_0le, i_e0, i_0lt, i_le0, i_cl, bz_0, wp_s, lq_l, lq_r, if_true, if_false, ite_not, true_and, and_true, m_32_b6, v_kd hv, hC.2.2.1, m_32_x6_72]
    refine ⟨hJ, Or.inr ⟨by rw [hm], by rw [← hm]; exact hmw⟩⟩
theorem s_246 {I : ai_I} {t L w : Nat} {x : Int32} (hx : ∀ m, m ≤ 524288 → ((nI m = x) = (m = w))) : wp (m_246 75 x I (Rc t) (Gc L)) (fun q => (∃ f, fnd (I 83) w f ∧ q = nI f) ∨ (q = (if 0 ≤ x then -4 else nI (fln (flt (I 83)) 524288)) ∧ fln (flt (I 83)) 524288 ≤ w)) := by
  unfold m_246
  refine wp_s2 (wp_lp (fun a s => s = (nI (fln (flt (I 83)) (2048 * a)), nI a) ∧ fln (flt (I 83)) (2048 * a) ≤ w) 0 256 (Nat.zero_le _) (by omega) ⟨rfl, Nat.zero_le _⟩ ?_ ?_)
  · rintro a _ ha ⟨rfl, hw⟩
    simp (disch := omega) only [if_pos, if_neg, o_b1_s, o_b2_s, o_b3_s, o_b4_s, o_s1_s, o_s2_l, o_s2_r, o_g_t, i_add, i_mul, i_sub, i_and, i_or, i_xor, i_sd, i_shl, Nat.one_mul, i_eq, i_lt, i_le, i_n0, i_0le, i_e0, i_0lt, i_le0, i_cl, bz_0, wp_s, lq_l, lq_r, if_true, if_false, ite_not, true_and, and_true, m_246_b4]
    refine wp_s2 (wp_lp (fun b s => s = (nI (fln (flt (I 83)) (2048 * a + 8 * b)), nI b) ∧ fln (flt (I 83)) (2048 * a + 8 * b) ≤ w) 0 256 (Nat.zero_le _) (by omega) ⟨rfl, hw⟩ ?_ ?_)
    · rintro b _ hb ⟨rfl, hw⟩
      simp (disch := omega) only [if_pos, if_neg, o_b1_s, o_b2_s, o_b3_s, o_b4_s, o_s1_s, o_s2_l, o_s2_r, o_g_t, i_add, i_mul, i_sub, i_and, i_or, i_xor, i_sd, i_shl, Nat.one_mul, i_eq, i_lt, i_le, i_n0, i_0le, i_e0, i_0lt, i_le0, i_cl, bz_0, wp_s, lq_l, lq_r, if_true, if_false, ite_not, true_and, and_true, m_246_b14, r_75_20, g_83]
      split
      · rename_i hA
        simp (disch := omega) only [o_b1_s, o_b2_s, o_b3_s, o_b4_s, o_s1_s, o_s2_l, o_s2_r, o_g_t, i_add, i_mul, i_sub, i_and, i_or, i_xor, i_sd, i_shl, Nat.one_mul, i_eq, i_lt, i_le, i_n0, i_0le, i_e0, i_0lt, i_le0, i_cl, bz_0, wp_s, lq_l, lq_r, if_true, if_false, ite_not, true_and, and_true, m_246_x14_125]
        have e : fln (flt (I 83)) (2048 * (a + 1)) = fln (flt (I 83)) (2048 * a + 8 * b) := fln_gap (2048 - 8 * b) _ _ (by omega) (fun q h1 h2 => by
          unfold flt
          rw [show q / 2048 = a by omega, hA]
          rfl)
        rw [e]
        exact ⟨rfl, hw⟩
      · rename_i hA
        refine wp_s2 (wp_lp (fun i s => s = (nI (fln (flt (I 83)) (2048 * a + 8 * b + i)), nI i) ∧ fln (flt (I 83)) (2048 * a + 8 * b + i) ≤ w) 0 8 (Nat.zero_le _) (by omega) ⟨rfl, hw⟩ ?_ ?_)
        · rintro i _ hi ⟨rfl, hw⟩
          have hle : fln (flt (I 83)) (2048 * a + 8 * b + i) ≤ 524288 := Nat.le_trans (fln_le _ _) (by omega)
          have hf := flt_at (T := I 83) ha hb hi
          have hs := fln_succ (flt (I 83)) (2048 * a + 8 * b + i)
          rw [show 2048 * a + 8 * b + i + 1 = 2048 * a + 8 * b + (i + 1) from rfl] at hs
          simp (disch := omega) only [if_pos, if_neg, o_b1_s, o_b2_s, o_b3_s, o_b4_s, o_s1_s, o_s2_l, o_s2_r, o_g_t, i_add, i_mul, i_sub, i_and, i_or, i_xor, i_sd, i_shl, Nat.one_mul, i_eq, i_lt, i_le, i_n0, i_0le, i_e0, i_0lt, i_le0, i_cl, bz_0, wp_s, lq_l, lq_r, if_true, if_false, ite_not, true_and, and_true, m_246_b36, r_75_20, g_83]
          split
          · rename_i hB
            have e := flt_noB (T := I 83) ha hb hB
            have e2 : fln (flt (I 83)) (2048 * a + 8 * (b + 1)) = fln (flt (I 83)) (2048 * a + 8 * b + i) := fln_gap (8 - i) _ _ (by omega) (fun q h1 h2 => by
              unfold flt
              rw [show q / 8 % 256 = b by omega, hB]
              simp)
            simp (disch := omega) only [o_b1_s, o_b2_s, o_b3_s, o_b4_s, o_s1_s, o_s2_l, o_s2_r, o_g_t, i_add, i_mul, i_sub, i_and, i_or, i_xor, i_sd, i_shl, Nat.one_mul, i_eq, i_lt, i_le, i_n0, i_0le, i_e0, i_0lt, i_le0, i_cl, bz_0, wp_s, lq_l, lq_r, if_true, if_false, ite_not, true_and, and_true, m_246_x36_119]
            rw [e2]
            exact ⟨rfl, hw⟩
          · rename_i hB
            rw [decide_eq_true hA, decide_eq_true hB, Bool.true_and, Bool.true_and] at hf
            simp (disch := omega) only [o_b1_s, o_b2_s, o_b3_s, o_b4_s, o_s1_s, o_s2_l, o_s2_r, o_g_t, i_add, i_mul, i_sub, i_and, i_or, i_xor, i_sd, i_shl, Nat.one_mul, i_eq, i_lt, i_le, i_n0, i_0le, i_e0, i_0lt, i_le0, i_cl, bz_0, wp_s, lq_l, lq_r, if_true, if_false, ite_not, true_and, and_true, s_192]
            split
            · rename_i c1
              split
              · rename_i c2
                rw [c1, c2, Bool.not_true, Bool.and_false, Bool.false_and] at hf
                rw [hf] at hs
                simp (disch := omega) only [o_b1_s, o_b2_s, o_b3_s, o_b4_s, o_s1_s, o_s2_l, o_s2_r, o_g_t, i_add, i_mul, i_sub, i_and, i_or, i_xor, i_sd, i_shl, Nat.one_mul, i_eq, i_lt, i_le, i_n0, i_0le, i_e0, i_0lt, i_le0, i_cl, bz_0, wp_s, lq_l, lq_r, if_true, if_false, ite_not, true_and, and_true]
                rw [hs]
                exact ⟨rfl, hw⟩
              · rename_i c2
                have c2f := not_tb c2
                rw [c1, c2f, Bool.not_false, Bool.and_true, Bool.true_and] at hf
                rw [s_245 ha hb hi c1]
                simp (disch := omega) only [o_b1_s, o_b2_s, o_b3_s, o_b4_s, o_s1_s, o_s2_l, o_s2_r, o_g_t, i_add, i_mul, i_sub, i_and, i_or, i_xor, i_sd, i_shl, Nat.one_mul, i_eq, i_lt, i_le, i_n0, i_0le, i_e0, i_0lt, i_le0, i_cl, bz_0, wp_s, lq_l, lq_r, if_true, if_false, ite_not, true_and, and_true]
                cases hq : ((List.range 8).find? (good (I 83) a b i)) with
                | none =>
                  rw [hq] at hf
                  have hf2 : flt (I 83) (2048 * a + 8 * b + i) = true := hf
                  rw [hf2, if_pos rfl] at hs
                  rw [if_pos (show fndE none < 0 by decide)]
                  by_cases e : fln (flt (I 83)) (2048 * a + 8 * b + i) = w
                  · rw [if_pos (by rw [hx _ hle]; exact e)]
                    simp (disch := omega) only [o_b1_s, o_b2_s, o_b3_s, o_b4_s, o_s1_s, o_s2_l, o_s2_r, o_g_t, i_add, i_mul, i_sub, i_and, i_or, i_xor, i_sd, i_shl, Nat.one_mul, i_eq, i_lt, i_le, i_n0, i_0le, i_e0, i_0lt, i_le0, i_cl, bz_0, wp_s, lq_l, lq_r, if_true, if_false, ite_not, true_and, and_true, m_246_x36_94, m_246_x14_94, m_246_x4_94]
                    exact Or.inl ⟨_, ⟨by omega, hf2, e⟩, rfl⟩
                  · rw [if_neg (by rw [hx _ hle]; exact e)]
                    simp (disch := omega) only [o_b1_s, o_b2_s, o_b3_s, o_b4_s, o_s1_s, o_s2_l, o_s2_r, o_g_t, i_add, i_mul, i_sub, i_and, i_or, i_xor, i_sd, i_shl, Nat.one_mul, i_eq, i_lt, i_le, i_n0, i_0le, i_e0, i_0lt, i_le0, i_cl, bz_0, wp_s, lq_l, lq_r, if_true, if_false, ite_not, true_and, and_true]
                    rw [hs]
                    exact ⟨rfl, by omega⟩
                | some j =>
                  have hj : j < 8 := List.mem_range.1 (List.mem_of_find?_eq_some hq)
                  rw [hq] at hf
                  have hf2 : flt (I 83) (2048 * a + 8 * b + i) = false := hf
                  rw [hf2] at hs
                  rw [if_neg (show ¬ fndE (some j) < 0 from nI_pos (by omega))]
                  simp (disch := omega) only [o_b1_s, o_b2_s, o_b3_s, o_b4_s, o_s1_s, o_s2_l, o_s2_r, o_g_t, i_add, i_mul, i_sub, i_and, i_or, i_xor, i_sd, i_shl, Nat.one_mul, i_eq, i_lt, i_le, i_n0, i_0le, i_e0, i_0lt, i_le0, i_cl, bz_0, wp_s, lq_l, lq_r, if_true, if_false, ite_not, true_and, and_true]
                  rw [hs]
                  exact ⟨rfl, hw⟩
            · rename_i c1
              rw [not_tb c1, Bool.false_and, Bool.false_and] at hf
              rw [hf] at hs
              simp (disch := omega) only [o_b1_s, o_b2_s, o_b3_s, o_b4_s, o_s1_s, o_s2_l, o_s2_r, o_g_t, i_add, i_mul, i_sub, i_and, i_or, i_xor, i_sd, i_shl, Nat.one_mul, i_eq, i_lt, i_le, i_n0, i_0le, i_e0, i_0lt, i_le0, i_cl, bz_0, wp_s, lq_l, lq_r, if_true, if_false, ite_not, true_and, and_true]
              rw [hs]
              exact ⟨rfl, hw⟩
        · rintro _ ⟨rfl, hw⟩
          simp (disch := omega) only [if_pos, if_neg, o_b1_s, o_b2_s, o_b3_s, o_b4_s, o_s1_s, o_s2_l, o_s2_r, o_g_t, i_add, i_mul, i_sub, i_and, i_or, i_xor, i_sd, i_shl, Nat.one_mul, i_eq, i_lt, i_le, i_n0, i_0le, i_e0, i_0lt, i_le0, i_cl, bz_0, wp_s, lq_l, lq_r, if_true, if_false, ite_not, true_and, and_true, m_246_b36, m_246_x36_119]
          exact ⟨rfl, hw⟩
    · rintro _ ⟨rfl, hw⟩
      simp (disch := omega) only [if_pos, if_neg, o_b1_s, o_b2_s, o_b3_s, o_b4_s, o_s1_s, o_s2_l, o_s2_r, o_g_t, i_add, i_mul, i_sub, i_and, i_or, i_xor, i_sd, i_shl, Nat.one_mul, i_eq, i_lt, i_le, i_n0, i_0le, i_e0, i_0lt, i_le0, i_cl, bz_0, wp_s, lq_l, lq_r, if_true, if_false, ite_not, true_and, and_true, m_246_b14, m_246_x14_125]
      exact ⟨rfl, hw⟩
  · rintro _ ⟨rfl, hw⟩
    simp (disch := omega) only [if_pos, if_neg, o_b1_s, o_b2_s, o_b3_s, o_b4_s, o_s1_s, o_s2_l, o_s2_r, o_g_t, i_add, i_mul, i_sub, i_and, i_or, i_xor, i_sd, i_shl, Nat.one_mul, i_eq, i_lt, i_le, i_n0, i_0le, i_e0, i_0lt, i_le0, i_cl, bz_0, wp_s, lq_l, lq_r, if_true, if_false, ite_not, true_and, and_true, m_246_b4, m_246_x4_131]
    split
    · rename_i c
      simp (disch := omega) only [o_b1_s, o_b2_s, o_b3_s, o_b4_s, o_s1_s, o_s2_l, o_s2_r, o_g_t, i_add, i_mul, i_sub, i_and, i_or, i_xor, i_sd, i_shl, Nat.one_mul, i_eq, i_lt, i_le, i_n0, i_0le, i_e0, i_0lt, i_le0, i_cl, bz_0, wp_s, lq_l, lq_r, if_true, if_false, ite_not, true_and, and_true]
      exact Or.inr hw
    · rename_i c
      simp (disch := omega) only [o_b1_s, o_b2_s, o_b3_s, o_b4_s, o_s1_s, o_s2_l, o_s2_r, o_g_t, i_add, i_mul, i_sub, i_and, i_or, i_xor, i_sd, i_shl, Nat.one_mul, i_eq, i_lt, i_le, i_n0, i_0le, i_e0, i_0lt, i_le0, i_cl, bz_0, wp_s, lq_l, lq_r, if_true, if_false, ite_not, true_and, and_true]
      exact Or.inr hw
/-- a fault's number tells it alone -/
theorem fnd_one {T : Nat → Int32} {w f g : Nat} (h1 : fnd T w f) (h2 : fnd T w g) : f = g := by
  obtain ⟨a1, a2, a3⟩ := h1
  obtain ⟨b1, b2, b3⟩ := h2
  have key : ∀ x y, x < y → flt T x = true → fln (flt T) x = w → fln (flt T) y = w → False := fun x y hxy e1 e2 e3 => by
    have h := fln_succ (flt T) x
    rw [e1, if_pos rfl] at h
    have h2 := fln_mono (p := flt T) (y - (x + 1)) (x + 1) y (by omega)
    omega
  by_cases c : f < g
  · exact (key f g c a2 a3 b3).elim
  · by_cases c2 : g < f
    · exact (key g f c2 b2 b3 a3).elim
    · omega
theorem fnd_not {T : Nat → Int32} {w f : Nat} (h : fnd T w f) (h2 : fln (flt T) 524288 ≤ w) : False := by
  obtain ⟨a1, a2, a3⟩ := h
  have h := fln_succ (flt T) f
  rw [a2, if_pos rfl] at h
  have h3 := fln_mono (p := flt T) (524288 - (f + 1)) (f + 1) 524288 (by omega)
  omega
theorem fnd_cong {T U : Nat → Int32} {w f : Nat} (h : ∀ k, k < 256 → T k = U k) (h2 : fnd T w f) : fnd U w f := by
  obtain ⟨a1, a2, a3⟩ := h2
  exact ⟨a1, by rw [← flt_cong h a1]; exact a2, by rw [← fln_cong f (fun c hc => flt_cong h (by omega))]; exact a3⟩
