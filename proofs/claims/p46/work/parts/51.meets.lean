/-! Out of whole's part 51.meets, by wip/p46/extract.py. -/
theorem c_32 {I : ai_I} {t v n r c w : Nat} {L : ai_G} {V : Nat → Int32} (hv : v ∈ VC) (hW : WF n r V) (h : CS I v n r V) (hk : (Gc L).1 c = 13) (hn : (Gc L).2.1 c = 256) (hc : ¬ c = 55) (hT : ∀ k, k < 256 → V k = NO → I c k = NO) (hw : w < 2147483648) : wp (m_21 55 v c (nI w) I (Rc t) (Gc L)) (fun q => ot I q.2 55 ∧ ((∃ f, fnd (I c) w f ∧ q.1 = nI (w + 1) ∧ q.2 55 0 = nI (f / 2048) ∧ q.2 55 1 = nI (f / 8 % 256) ∧ q.2 55 2 = nI (f % 8)) ∨ (q.1 = nI (fln (flt (I c)) 524288) ∧ fln (flt (I c)) 524288 ≤ w))) := by
  have hl := BL_len hW
  have hvv := vc_51 v hv
  unfold m_21
  refine wp_s2 (wp_lpB V (fun p (s : Nat × ai_I) => (nI s.1, nI p, s.2)) (fun k s => ot I s.2 55 ∧ s.1 = fln (flt (I c)) (2048 * k) ∧ s.1 ≤ w) (x0 := (0, I)) hl ⟨fun _ _ => rfl, rfl, Nat.zero_le _⟩ ?_ ?_ ?_)
  · rintro k ⟨m, J⟩ hk2 hV ⟨h1, h2, h3⟩
    refine ⟨h1, ?_, h3⟩
    rw [flt_noA (hT k hk2 hV)]
    exact h2
  · rintro p ⟨m, J⟩ hp ⟨hJ, hm, hmw⟩
    dsimp only at hJ hm hmw
    have hC : CS J v n r V := CS_cong (fun _ _ => rfl) (hJ _ (by omega)) (hJ _ (by omega)) (hJ _ (by omega)) (hJ _ (by omega)) h
    have ha := (BL_at hp).1
    simp (disch := omega) only [if_pos, if_neg, o_b1_s, o_b2_s, o_b3_s, o_b4_s, o_s1_s, o_s2_l, o_s2_r, o_g_t, i_add, i_mul, i_sub, i_and, i_or, i_xor, i_sd, i_shl, Nat.one_mul, i_eq, i_lt, i_le, i_n0, i_0le, i_e0, i_0lt, i_le0, i_cl, bz_0, wp_s, lq_l, lq_r, if_true, if_false, ite_not, true_and, and_true, m_21_b6, v_kd hv, hC.2.2.1]
    refine wp_s2 (wp_lpB V (fun q (s : Nat × ai_I) => (nI s.1, nI q, s.2)) (fun k s => ot I s.2 55 ∧ s.1 = fln (flt (I c)) (2048 * (BL V).getD p 0 + 8 * k) ∧ s.1 ≤ w) (x0 := (m, J)) hl ⟨hJ, hm, hmw⟩ ?_ ?_ ?_)
    · rintro k ⟨m, J⟩ hk2 hV ⟨h1, h2, h3⟩
      refine ⟨h1, ?_, h3⟩
      rw [flt_noB ha hk2 (hT k hk2 hV)]
      exact h2
    · rintro q ⟨m, J⟩ hq ⟨hJ, hm, hmw⟩
      dsimp only at hJ hm hmw
      have hC : CS J v n r V := CS_cong (fun _ _ => rfl) (hJ _ (by omega)) (hJ _ (by omega)) (hJ _ (by omega)) (hJ _ (by omega)) h
      have hb := (BL_at hq).1
      have hJc := hJ c hc
      simp (disch := omega) only [if_pos, if_neg, o_b1_s, o_b2_s, o_b3_s, o_b4_s, o_s1_s, o_s2_l, o_s2_r, o_g_t, i_add, i_mul, i_sub, i_and, i_or, i_xor, i_sd, i_shl, Nat.one_mul, i_eq, i_lt, i_le, i_n0, i_0le, i_e0, i_0lt, i_le0, i_cl, bz_0, wp_s, lq_l, lq_r, if_true, if_false, ite_not, true_and, and_true, m_21_b18, hC.2.2.1, v_rb hv, v_gb hv, hC.2.2.2.2.2]
      rw [← hJc] at hm
      refine wp_b2 (wp_mono (c_33 (I := J) (L := L) hk hn hc ha hb hw hm hmw) ?_)
      rintro ⟨x, K⟩ ⟨hK, hx⟩
      dsimp only at hK hx
      have hIK : ot I K 55 := fun q hq => (hK q hq).trans (hJ q hq)
      rw [hJc] at hx
      rcases hx with ⟨i, hi, hf, hx, e1, e2, e3⟩ | ⟨hx, hxw⟩
      · obtain ⟨f1, f2, f3⟩ := flt_abi ha hb hi
        show wp (if x ≤ nI w then _ else _) _
        rw [hx, if_neg (by rw [i_le (by have := hf.2.2; have := fln_le (flt (I c)) (2048 * (BL V).getD p 0 + 8 * (BL V).getD q 0 + i); omega) hw]; omega)]
        simp (disch := omega) only [o_b1_s, o_b2_s, o_b3_s, o_b4_s, o_s1_s, o_s2_l, o_s2_r, o_g_t, i_add, i_mul, i_sub, i_and, i_or, i_xor, i_sd, i_shl, Nat.one_mul, i_eq, i_lt, i_le, i_n0, i_0le, i_e0, i_0lt, i_le0, i_cl, bz_0, wp_s, lq_l, lq_r, if_true, if_false, ite_not, true_and, and_true, m_21_x18_57, m_21_x6_57]
        exact ⟨hIK, Or.inl ⟨_, hf, by rw [f1]; exact e1, by rw [f2]; exact e2, by rw [f3]; exact e3⟩⟩
      · show wp (if x ≤ nI w then _ else _) _
        rw [hx, if_pos (nI_le hxw hw)]
        simp (disch := omega) only [o_b1_s, o_b2_s, o_b3_s, o_b4_s, o_s1_s, o_s2_l, o_s2_r, o_g_t, i_add, i_mul, i_sub, i_and, i_or, i_xor, i_sd, i_shl, Nat.one_mul, i_eq, i_lt, i_le, i_n0, i_0le, i_e0, i_0lt, i_le0, i_cl, bz_0, wp_s, lq_l, lq_r, if_true, if_false, ite_not, true_and, and_true]
        exact ⟨(fln (flt (I c)) (2048 * (BL V).getD p 0 + 8 * ((BL V).getD q 0 + 1)), K), rfl, hIK, rfl, hxw⟩
    · rintro ⟨m, J⟩ ⟨hJ, hm, hmw⟩
      dsimp only at hJ hm hmw
      have hC : CS J v n r V := CS_cong (fun _ _ => rfl) (hJ _ (by omega)) (hJ _ (by omega)) (hJ _ (by omega)) (hJ _ (by omega)) h
      simp (disch := omega) only [if_pos, if_neg, o_b1_s, o_b2_s, o_b3_s, o_b4_s, o_s1_s, o_s2_l, o_s2_r, o_g_t, i_add, i_mul, i_sub, i_and, i_or, i_xor, i_sd, i_shl, Nat.one_mul, i_eq, i_lt, i_le, i_n0, i_0le, i_e0, i_0lt, i_le0, i_cl, bz_0, wp_s, lq_l, lq_r, if_true, if_false, ite_not, true_and, and_true, m_21_b18, hC.2.2.1, m_21_x18_66]
      exact ⟨(m, J), rfl, hJ, hm, hmw⟩
  · rintro ⟨m, J⟩ ⟨hJ, hm, hmw⟩
    dsimp only at hJ hm hmw
    have hC : CS J v n r V := CS_cong (fun _ _ => rfl) (hJ _ (by omega)) (hJ _ (by omega)) (hJ _ (by omega)) (hJ _ (by omega)) h
    simp (disch := omega) only [if_pos, if_neg, o_b1_s, o_b2_s, o_b3_s, o_b4_s, o_s1_s, o_s2_l, o_s2_r, o_g_t, i_add, i_mul, i_sub, i_and, i_or, i_xor, i_sd, i_shl, Nat.one_mul, i_eq, i_lt, i_le, i_n0, i_0le, i_e0, i_0lt, i_le0, i_cl, bz_0, wp_s, lq_l, lq_r, if_true, if_false, ite_not, true_and, and_true, m_21_b6, v_kd hv, hC.2.2.1, m_21_x6_72]
    refine ⟨hJ, Or.inr ⟨by rw [hm], by rw [← hm]; exact hmw⟩⟩
/-- a fault's number tells it alone -/
theorem fnd_one {T : Nat → Int32} {w f g : Nat} (h1 : fnd T w f) (h2 : fnd T w g) : f = g := by
  obtain ⟨a1, a2, a3⟩ := h1
  obtain ⟨b1, b2, b3⟩ := h2
  have key : ∀ x y, x < y → flt T x = true → fln (flt T) x = w → fln (flt T) y = w → False := fun x y hxy e1 e2 e3 => by
    have h := fln_succ (flt T) x
    rw [e1, if_pos rfl] at h
    have h2 := fln_mono (p := flt T) (y - (x + 1)) (x + 1) y (by omega)
    omega
  by_cases c : f < g
  · exact (key f g c a2 a3 b3).elim
  · by_cases c2 : g < f
    · exact (key g f c2 b2 b3 a3).elim
    · omega
theorem fnd_not {T : Nat → Int32} {w f : Nat} (h : fnd T w f) (h2 : fln (flt T) 524288 ≤ w) : False := by
  obtain ⟨a1, a2, a3⟩ := h
  have h := fln_succ (flt T) f
  rw [a2, if_pos rfl] at h
  have h3 := fln_mono (p := flt T) (524288 - (f + 1)) (f + 1) 524288 (by omega)
  omega
theorem fnd_cong {T U : Nat → Int32} {w f : Nat} (h : ∀ k, k < 256 → T k = U k) (h2 : fnd T w f) : fnd U w f := by
  obtain ⟨a1, a2, a3⟩ := h2
  exact ⟨a1, by rw [← flt_cong h a1]; exact a2, by rw [← fln_cong f (fun c hc => flt_cong h (by omega))]; exact a3⟩
