/-! The row of fewest steps, as the class and the reference make it. -/
theorem nmin1 {m : Nat} (h : m < 2147483648) : (dwn m = (-1 : Int32)) = (m = 0) := by
  by_cases h0 : m = 0
  · subst h0
    exact propext ⟨fun _ => rfl, fun _ => dwn_0⟩
  · rw [dwn_p (by omega)]
    exact propext ⟨fun h9 => absurd h9 (nI_m1 (by omega)), fun h9 => absurd h9 h0⟩
/-- nothing is written but two cells -/
def ot2 (I J : ai_I) (c d : Nat) : Prop := ∀ x, ¬ x = c → ¬ x = d → J x = I x
theorem ot2_up {I J : ai_I} {c d i j : Nat} {x y : Int32} (h : ot2 I J c d) : ot2 I (va_up (va_up J c (va_up (J c) i x)) d (va_up ((va_up J c (va_up (J c) i x)) d) j y)) c d := fun q h1 h2 => by
  rw [up_ne h2, up_ne h1]
  exact h q h1 h2
theorem c_128 {I : ai_I} {t L v n r k : Nat} {V : Nat → Int32} {s : bst3} (hv : v ∈ VC) (hW : WF n r V) (h : CS I v n r V) (hs : BI V k s) (hk : k < s.1) (hE : BE I 64 66 s) : wp (m_128 63 v (nI (s.2.1 k)) (nI s.1) I (Rc t) (Gc L)) (fun q => q.1 = nI (bin V k 256 s).1 ∧ BE q.2 64 66 (bin V k 256 s) ∧ ot2 I q.2 64 66) := by
  have hl := BL_len hW
  have hvv := vc_51 v hv
  have hka := BL_mem.1 (hs.2.2.1 k hk).1
  have hkp := (hW.2.2.2.2.1 _ hka.1 hka.2).2.1
  unfold m_128
  refine wp_s1 (wp_lpB V (fun p (x : Nat × ai_I) => (nI x.1, nI p, x.2)) (fun b x => x.1 = (bin V k b s).1 ∧ BE x.2 64 66 (bin V k b s) ∧ ot2 I x.2 64 66) (x0 := (s.1, I)) hl ⟨rfl, hE, fun _ _ _ => rfl⟩ ?_ ?_ ?_)
  · rintro b ⟨m, J⟩ hb hV ⟨h1, h2, h3⟩
    have e : bin V k (b + 1) s = bin V k b s := by
      rw [bin_succ]
      unfold bstp
      rw [if_neg (fun h9 => h9.1 hV)]
    rw [e]
    exact ⟨h1, h2, h3⟩
  · rintro p ⟨m, J⟩ hp ⟨h1, h2, h3⟩
    dsimp only at h1 h2 h3
    have hC : CS J v n r V := CS_cong (fun _ _ => rfl) (h3 _ (by omega) (by omega)) (h3 _ (by omega) (by omega)) (h3 _ (by omega) (by omega)) (h3 _ (by omega) (by omega)) h
    have hb := BL_at hp
    have hbB := BL_in hp
    have hbp := (hW.2.2.2.2.1 _ hb.1 hb.2).2.1
    obtain ⟨a1, a2, a3, a4⟩ := BI_bin hk hs ((BL V).getD p 0) (by omega)
    obtain ⟨e1, e2⟩ := a4 k hk
    have hle := BI_le a1
    have hJb := h2.1 _ hb.1
    have hJk := h2.1 _ hka.1
    have hsb := a1.2.2.2.1 ((BL V).getD p 0)
    simp (disch := omega) only [if_pos, if_neg, o_b1_s, o_b2_s, o_b3_s, o_b4_s, o_s1_s, o_s2_l, o_s2_r, o_g_t, i_add, i_mul, i_sub, i_and, i_or, i_xor, i_sd, i_shl, Nat.one_mul, i_eq, i_lt, i_le, i_n0, i_0le, i_e0, i_0lt, i_le0, i_cl, bz_0, wp_s, lq_l, lq_r, if_true, if_false, ite_not, true_and, and_true, m_128_b6, v_kd hv, hC.2.2.1, v_rb hv, v_gb hv, hC.2.2.2.2.2, r_63_0, g_64]
    have hz : (0 : Int32) ≤ J 64 ((BL V).getD p 0) ↔ ¬ (bin V k ((BL V).getD p 0) s).2.2 ((BL V).getD p 0) = 0 := by
      rw [hJb, dwn_0le (by omega)]
      omega
    by_cases c0 : (bin V k ((BL V).getD p 0) s).2.2 ((BL V).getD p 0) = 0
    · have hlt := BI_lt a1 hbB c0
      rw [if_neg (fun h9 => hz.1 h9 c0), c_129 hka.1 hb.1 (by rw [hkp, hbp]), o_b1_s]
      simp (disch := omega) only [o_b1_s, o_b2_s, o_b3_s, o_b4_s, o_s1_s, o_s2_l, o_s2_r, o_g_t, i_add, i_mul, i_sub, i_and, i_or, i_xor, i_sd, i_shl, Nat.one_mul, i_eq, i_lt, i_le, i_n0, i_0le, i_e0, i_0lt, i_le0, i_cl, bz_0, wp_s, lq_l, lq_r, if_true, if_false, ite_not, true_and, and_true]
      by_cases c1 : nb (s.2.1 k) ((BL V).getD p 0)
      · rw [if_pos c1, h1, if_neg (by omega)]
        simp (disch := omega) only [if_pos, if_neg, o_b1_s, o_b2_s, o_b3_s, o_b4_s, o_s1_s, o_s2_l, o_s2_r, o_g_t, i_add, i_mul, i_sub, i_and, i_or, i_xor, i_sd, i_shl, Nat.one_mul, i_eq, i_lt, i_le, i_n0, i_0le, i_e0, i_0lt, i_le0, i_cl, bz_0, wp_s, lq_l, lq_r, if_true, if_false, ite_not, true_and, and_true, g_64, r_63_2, g_66, r_63_0]
        rw [hJk]
        have est : bin V k ((BL V).getD p 0 + 1) s = ((bin V k ((BL V).getD p 0) s).1 + 1, va_up (bin V k ((BL V).getD p 0) s).2.1 (bin V k ((BL V).getD p 0) s).1 ((BL V).getD p 0), va_up (bin V k ((BL V).getD p 0) s).2.2 ((BL V).getD p 0) ((bin V k ((BL V).getD p 0) s).2.2 ((bin V k ((BL V).getD p 0) s).2.1 k) + 1)) := by
          rw [bin_succ]
          unfold bstp
          rw [if_pos ⟨hb.2, c0, by rw [e1]; exact c1⟩]
        have hup := BE_up (k := k) (b := (BL V).getD p 0) (show ¬ 64 = 66 by decide) h2
        rw [e1] at hup
        have hfr := ot2_up (i := (BL V).getD p 0) (j := (bin V k ((BL V).getD p 0) s).1) (x := nI ((bin V k ((BL V).getD p 0) s).2.2 (s.2.1 k))) (y := nI ((BL V).getD p 0)) h3
        rw [est, e1]
        refine ⟨((bin V k ((BL V).getD p 0) s).1 + 1, _), rfl, rfl, ?_, ?_⟩
        · rw [dwn_1]
          exact hup
        · rw [dwn_1]
          exact hfr
      · rw [if_neg c1]
        simp (disch := omega) only [o_b1_s, o_b2_s, o_b3_s, o_b4_s, o_s1_s, o_s2_l, o_s2_r, o_g_t, i_add, i_mul, i_sub, i_and, i_or, i_xor, i_sd, i_shl, Nat.one_mul, i_eq, i_lt, i_le, i_n0, i_0le, i_e0, i_0lt, i_le0, i_cl, bz_0, wp_s, lq_l, lq_r, if_true, if_false, ite_not, true_and, and_true]
        have est : bin V k ((BL V).getD p 0 + 1) s = bin V k ((BL V).getD p 0) s := by
          rw [bin_succ]
          unfold bstp
          rw [if_neg (fun h9 => c1 (by rw [← e1]; exact h9.2.2))]
        rw [est]
        exact ⟨(m, J), rfl, h1, h2, h3⟩
    · rw [if_pos (hz.2 c0)]
      simp (disch := omega) only [o_b1_s, o_b2_s, o_b3_s, o_b4_s, o_s1_s, o_s2_l, o_s2_r, o_g_t, i_add, i_mul, i_sub, i_and, i_or, i_xor, i_sd, i_shl, Nat.one_mul, i_eq, i_lt, i_le, i_n0, i_0le, i_e0, i_0lt, i_le0, i_cl, bz_0, wp_s, lq_l, lq_r, if_true, if_false, ite_not, true_and, and_true]
      have est : bin V k ((BL V).getD p 0 + 1) s = bin V k ((BL V).getD p 0) s := by
        rw [bin_succ]
        unfold bstp
        rw [if_neg (fun h9 => c0 h9.2.1)]
      rw [est]
      exact ⟨(m, J), rfl, h1, h2, h3⟩
  · rintro ⟨m, J⟩ ⟨h1, h2, h3⟩
    dsimp only at h1 h2 h3
    have hC : CS J v n r V := CS_cong (fun _ _ => rfl) (h3 _ (by omega) (by omega)) (h3 _ (by omega) (by omega)) (h3 _ (by omega) (by omega)) (h3 _ (by omega) (by omega)) h
    simp (disch := omega) only [if_pos, if_neg, o_b1_s, o_b2_s, o_b3_s, o_b4_s, o_s1_s, o_s2_l, o_s2_r, o_g_t, i_add, i_mul, i_sub, i_and, i_or, i_xor, i_sd, i_shl, Nat.one_mul, i_eq, i_lt, i_le, i_n0, i_0le, i_e0, i_0lt, i_le0, i_cl, bz_0, wp_s, lq_l, lq_r, if_true, if_false, ite_not, true_and, and_true, m_128_b6, v_kd hv, hC.2.2.1, m_128_x6_83]
    exact ⟨by rw [h1], h2, h3⟩
theorem BE_0 {J : ai_I} {c d a : Nat} (hcd : ¬ c = d) (ha : a < 256) (h : ∀ x, x < 256 → J c x = -1) : BE (va_up (va_up J c (va_up (J c) a (nI 0))) d (va_up ((va_up J c (va_up (J c) a (nI 0))) d) 0 (nI a))) c d (1, fun _ => a, fun x => if x = a then 1 else 0) := by
  refine ⟨fun x hx => ?_, fun i hi => ?_⟩
  · rw [up_ne hcd, up_eq]
    show _ = dwn (if x = a then 1 else 0)
    by_cases e : x = a
    · rw [if_pos e, e, up_eq, dwn_s]
    · rw [if_neg e, up_ne e, h x hx, dwn_0]
  · have hi2 : i < 1 := hi
    obtain rfl : i = 0 := by omega
    rw [up_eq, up_eq]
theorem c_127 {I : ai_I} {t L v n r a : Nat} {V : Nat → Int32} (hv : v ∈ VC) (hW : WF n r V) (h : CS I v n r V) (ha : a ∈ BL V) : wp (m_127 63 v (nI a) I (Rc t) (Gc L)) (fun q => ∃ k, BQ V a k ∧ q.1 = nI (bsg V a k).1 ∧ BE q.2 64 66 (bsg V a k) ∧ ot2 I q.2 64 66) := by
  have hl := BL_len hW
  have hvv := vc_51 v hv
  have ha2 := (BL_mem.1 ha).1
  obtain ⟨J, j1, j2, j3⟩ := c_332 (I := I) (L := L) (a := 64) (n := 256) (x := -1) rfl rfl (by decide)
  unfold m_127
  rw [r_63_0, j1, o_b1_s]
  simp (disch := omega) only [if_pos, if_neg, o_b1_s, o_b2_s, o_b3_s, o_b4_s, o_s1_s, o_s2_l, o_s2_r, o_g_t, i_add, i_mul, i_sub, i_and, i_or, i_xor, i_sd, i_shl, Nat.one_mul, i_eq, i_lt, i_le, i_n0, i_0le, i_e0, i_0lt, i_le0, i_cl, bz_0, wp_s, lq_l, lq_r, if_true, if_false, ite_not, true_and, and_true, g_64, r_63_2, g_66]
  refine wp_s1 (wp_lp (fun k s => ∃ J, s = (nI (bsg V a k).1, nI k, J) ∧ (∀ j, j < k → j < (bsg V a j).1) ∧ BE J 64 66 (bsg V a k) ∧ ot2 I J 64 66) 0 70 (Nat.zero_le _) (by omega) ⟨_, rfl, fun j hj => absurd hj (Nat.not_lt_zero _), BE_0 (by decide) ha2 j3, fun q h1 h2 => by rw [up_ne h2, up_ne h1]; exact j2 q h1⟩ ?_ ?_)
  · rintro k _ hk ⟨J, rfl, hj, hE, hJ⟩
    have hBI := BI_sg ha k hj
    have hle := BI_le hBI
    have hC : CS J v n r V := CS_cong (fun _ _ => rfl) (hJ _ (by omega) (by omega)) (hJ _ (by omega) (by omega)) (hJ _ (by omega) (by omega)) (hJ _ (by omega) (by omega)) h
    by_cases c : (bsg V a k).1 ≤ k
    · simp (disch := omega) only [if_pos, if_neg, o_b1_s, o_b2_s, o_b3_s, o_b4_s, o_s1_s, o_s2_l, o_s2_r, o_g_t, i_add, i_mul, i_sub, i_and, i_or, i_xor, i_sd, i_shl, Nat.one_mul, i_eq, i_lt, i_le, i_n0, i_0le, i_e0, i_0lt, i_le0, i_cl, bz_0, wp_s, lq_l, lq_r, if_true, if_false, ite_not, true_and, and_true, m_127_b27, m_127_x27_60]
      exact ⟨k, ⟨c, hj⟩, rfl, hE, hJ⟩
    · have hk2 : k < (bsg V a k).1 := by omega
      simp (disch := omega) only [if_pos, if_neg, o_b1_s, o_b2_s, o_b3_s, o_b4_s, o_s1_s, o_s2_l, o_s2_r, o_g_t, i_add, i_mul, i_sub, i_and, i_or, i_xor, i_sd, i_shl, Nat.one_mul, i_eq, i_lt, i_le, i_n0, i_0le, i_e0, i_0lt, i_le0, i_cl, bz_0, wp_s, lq_l, lq_r, if_true, if_false, ite_not, true_and, and_true, m_127_b27, r_63_2, g_66, hE.2]
      refine wp_b2 (wp_mono (c_128 (t := t) (L := L) hv hW hC hBI hk2 hE) ?_)
      rintro ⟨x, K⟩ ⟨k1, k2, k3⟩
      dsimp only at k1 k2 k3
      rw [k1]
      simp (disch := omega) only [o_b1_s, o_b2_s, o_b3_s, o_b4_s, o_s1_s, o_s2_l, o_s2_r, o_g_t, i_add, i_mul, i_sub, i_and, i_or, i_xor, i_sd, i_shl, Nat.one_mul, i_eq, i_lt, i_le, i_n0, i_0le, i_e0, i_0lt, i_le0, i_cl, bz_0, wp_s, lq_l, lq_r, if_true, if_false, ite_not, true_and, and_true]
      refine ⟨K, rfl, fun j hj2 => ?_, k2, fun q h1 h2 => (k3 q h1 h2).trans (hJ q h1 h2)⟩
      by_cases e : j = k
      · rw [e]
        exact hk2
      · exact hj j (by omega)
  · rintro _ ⟨J, rfl, hj, hE, hJ⟩
    have hle := BI_le (BI_sg ha 70 hj)
    simp (disch := omega) only [if_pos, if_neg, o_b1_s, o_b2_s, o_b3_s, o_b4_s, o_s1_s, o_s2_l, o_s2_r, o_g_t, i_add, i_mul, i_sub, i_and, i_or, i_xor, i_sd, i_shl, Nat.one_mul, i_eq, i_lt, i_le, i_n0, i_0le, i_e0, i_0lt, i_le0, i_cl, bz_0, wp_s, lq_l, lq_r, if_true, if_false, ite_not, true_and, and_true, m_127_b27, m_127_x27_60]
    exact ⟨70, ⟨by omega, hj⟩, rfl, hE, hJ⟩
theorem s_302 {I : ai_I} {t L s n r a : Nat} (hs : s < 4) (hW : WF n r (FV I s)) (ha : a ∈ BL (FV I s)) : wp (m_302 75 (nI s) (nI a) I (Rc t) (Gc L)) (fun J => ∃ k, BQ (FV I s) a k ∧ BE J 87 89 (bsg (FV I s) a k) ∧ ot2 I J 87 89) := by
  have hl := BL_len hW
  have ha2 := (BL_mem.1 ha).1
  have hf : ∀ J : ai_I, ot2 I J 87 89 → FV J s = FV I s := fun J hJ => by
    unfold FV
    rw [hJ 76 (by decide) (by decide)]
  unfold m_302
  refine wp_s1 (wp_lp (fun i q => ∃ J, q = (nI i, J) ∧ ot2 I J 87 89 ∧ ∀ x, x < i → J 87 x = -1) 0 256 (Nat.zero_le _) (by omega) ⟨I, rfl, fun _ _ _ => rfl, fun x hx => absurd hx (Nat.not_lt_zero _)⟩ ?_ ?_)
  · rintro i _ hi ⟨J, rfl, hJ, hx⟩
    simp (disch := omega) only [if_pos, if_neg, o_b1_s, o_b2_s, o_b3_s, o_b4_s, o_s1_s, o_s2_l, o_s2_r, o_g_t, i_add, i_mul, i_sub, i_and, i_or, i_xor, i_sd, i_shl, Nat.one_mul, i_eq, i_lt, i_le, i_n0, i_0le, i_e0, i_0lt, i_le0, i_cl, bz_0, wp_s, lq_l, lq_r, if_true, if_false, ite_not, true_and, and_true, m_302_b2, r_75_26, g_87]
    refine ⟨_, rfl, fun q h1 h2 => by rw [up_ne h1]; exact hJ q h1 h2, fun x hx2 => ?_⟩
    rw [up_eq]
    by_cases e : x = i
    · rw [e, up_eq]
    · rw [up_ne e]
      exact hx x (by omega)
  · rintro _ ⟨J, rfl, hJ, hx⟩
    simp (disch := omega) only [if_pos, if_neg, o_b1_s, o_b2_s, o_b3_s, o_b4_s, o_s1_s, o_s2_l, o_s2_r, o_g_t, i_add, i_mul, i_sub, i_and, i_or, i_xor, i_sd, i_shl, Nat.one_mul, i_eq, i_lt, i_le, i_n0, i_0le, i_e0, i_0lt, i_le0, i_cl, bz_0, wp_s, lq_l, lq_r, if_true, if_false, ite_not, true_and, and_true, m_302_b2, m_302_x2_22, r_75_26, g_87, r_75_28, g_89]
    refine wp_s1 (wp_lp (fun k q => ∃ J, q = (nI (bsg (FV I s) a k).1, nI k, J) ∧ (∀ j, j < k → j < (bsg (FV I s) a j).1) ∧ BE J 87 89 (bsg (FV I s) a k) ∧ ot2 I J 87 89) 0 70 (Nat.zero_le _) (by omega) ⟨_, rfl, fun j hj => absurd hj (Nat.not_lt_zero _), BE_0 (by decide) ha2 hx, fun q h1 h2 => by rw [up_ne h2, up_ne h1]; exact hJ q h1 h2⟩ ?_ ?_)
    · rintro k _ hk ⟨J, rfl, hj, hE, hJ⟩
      have hBI := BI_sg ha k hj
      have hle := BI_le hBI
      by_cases c : (bsg (FV I s) a k).1 ≤ k
      · simp (disch := omega) only [if_pos, if_neg, o_b1_s, o_b2_s, o_b3_s, o_b4_s, o_s1_s, o_s2_l, o_s2_r, o_g_t, i_add, i_mul, i_sub, i_and, i_or, i_xor, i_sd, i_shl, Nat.one_mul, i_eq, i_lt, i_le, i_n0, i_0le, i_e0, i_0lt, i_le0, i_cl, bz_0, wp_s, lq_l, lq_r, if_true, if_false, ite_not, true_and, and_true, m_302_b41, m_302_x41_142]
        exact ⟨k, ⟨c, hj⟩, hE, hJ⟩
      · have hk2 : k < (bsg (FV I s) a k).1 := by omega
        have hka := BL_mem.1 (hBI.2.2.1 k hk2).1
        simp (disch := omega) only [if_pos, if_neg, o_b1_s, o_b2_s, o_b3_s, o_b4_s, o_s1_s, o_s2_l, o_s2_r, o_g_t, i_add, i_mul, i_sub, i_and, i_or, i_xor, i_sd, i_shl, Nat.one_mul, i_eq, i_lt, i_le, i_n0, i_0le, i_e0, i_0lt, i_le0, i_cl, bz_0, wp_s, lq_l, lq_r, if_true, if_false, ite_not, true_and, and_true, m_302_b41]
        refine wp_s1 (wp_lp (fun b q => ∃ J, q = (nI (bin (FV I s) k b (bsg (FV I s) a k)).1, nI b, J) ∧ BE J 87 89 (bin (FV I s) k b (bsg (FV I s) a k)) ∧ ot2 I J 87 89) 0 256 (Nat.zero_le _) (by omega) ⟨J, rfl, hE, hJ⟩ ?_ ?_)
        · rintro b _ hb ⟨J, rfl, hE, hJ⟩
          obtain ⟨a1, a2, a3, a4⟩ := BI_bin hk2 hBI b (by omega)
          obtain ⟨e1, e2⟩ := a4 k hk2
          have hle2 := BI_le a1
          have hJk : J 89 k = nI ((bsg (FV I s) a k).2.1 k) := by rw [hE.2 k a2, e1]
          have hst := a1.2.2.2.1 b
          have hz : J 87 b = (-1 : Int32) ↔ (bin (FV I s) k b (bsg (FV I s) a k)).2.2 b = 0 := by
            rw [hE.1 b hb, nmin1 (by omega)]
          have hJs : J 87 ((bsg (FV I s) a k).2.1 k) = dwn ((bin (FV I s) k b (bsg (FV I s) a k)).2.2 ((bsg (FV I s) a k).2.1 k)) := hE.1 _ hka.1
          have same : ¬ (FV I s b ≠ NO ∧ (bin (FV I s) k b (bsg (FV I s) a k)).2.2 b = 0 ∧ nb ((bsg (FV I s) a k).2.1 k) b) → bin (FV I s) k (b + 1) (bsg (FV I s) a k) = bin (FV I s) k b (bsg (FV I s) a k) := fun h9 => by
            rw [bin_succ]
            unfold bstp
            rw [e1, if_neg h9]
          simp (disch := omega) only [if_pos, if_neg, o_b1_s, o_b2_s, o_b3_s, o_b4_s, o_s1_s, o_s2_l, o_s2_r, o_g_t, i_add, i_mul, i_sub, i_and, i_or, i_xor, i_sd, i_shl, Nat.one_mul, i_eq, i_lt, i_le, i_n0, i_0le, i_e0, i_0lt, i_le0, i_cl, bz_0, wp_s, lq_l, lq_r, if_true, if_false, ite_not, true_and, and_true, m_302_b50, s_199, hf J hJ, r_75_26, g_87, r_75_28, g_89]
          split
          · rename_i c1
            simp (disch := omega) only [o_b1_s, o_b2_s, o_b3_s, o_b4_s, o_s1_s, o_s2_l, o_s2_r, o_g_t, i_add, i_mul, i_sub, i_and, i_or, i_xor, i_sd, i_shl, Nat.one_mul, i_eq, i_lt, i_le, i_n0, i_0le, i_e0, i_0lt, i_le0, i_cl, bz_0, wp_s, lq_l, lq_r, if_true, if_false, ite_not, true_and, and_true]
            rw [same (fun h9 => h9.1 c1)]
            exact ⟨J, rfl, hE, hJ⟩
          · rename_i c1
            by_cases c0 : (bin (FV I s) k b (bsg (FV I s) a k)).2.2 b = 0
            · rw [if_pos (hz.2 c0), hJk, s_267 hka.1 hb, o_b1_s]
              simp (disch := omega) only [o_b1_s, o_b2_s, o_b3_s, o_b4_s, o_s1_s, o_s2_l, o_s2_r, o_g_t, i_add, i_mul, i_sub, i_and, i_or, i_xor, i_sd, i_shl, Nat.one_mul, i_eq, i_lt, i_le, i_n0, i_0le, i_e0, i_0lt, i_le0, i_cl, bz_0, wp_s, lq_l, lq_r, if_true, if_false, ite_not, true_and, and_true]
              by_cases c2 : nb ((bsg (FV I s) a k).2.1 k) b
              · have hlt := BI_lt a1 (BL_mem.2 ⟨hb, c1⟩) c0
                rw [if_pos c2]
                simp (disch := omega) only [if_pos, if_neg, o_b1_s, o_b2_s, o_b3_s, o_b4_s, o_s1_s, o_s2_l, o_s2_r, o_g_t, i_add, i_mul, i_sub, i_and, i_or, i_xor, i_sd, i_shl, Nat.one_mul, i_eq, i_lt, i_le, i_n0, i_0le, i_e0, i_0lt, i_le0, i_cl, bz_0, wp_s, lq_l, lq_r, if_true, if_false, ite_not, true_and, and_true, g_87, g_89, hJs, dwn_1]
                have est : bin (FV I s) k (b + 1) (bsg (FV I s) a k) = ((bin (FV I s) k b (bsg (FV I s) a k)).1 + 1, va_up (bin (FV I s) k b (bsg (FV I s) a k)).2.1 (bin (FV I s) k b (bsg (FV I s) a k)).1 b, va_up (bin (FV I s) k b (bsg (FV I s) a k)).2.2 b ((bin (FV I s) k b (bsg (FV I s) a k)).2.2 ((bin (FV I s) k b (bsg (FV I s) a k)).2.1 k) + 1)) := by
                  rw [bin_succ]
                  unfold bstp
                  rw [if_pos ⟨c1, c0, by rw [e1]; exact c2⟩]
                have hup := BE_up (k := k) (b := b) (show ¬ 87 = 89 by decide) hE
                rw [e1] at hup
                have hfr := ot2_up (i := b) (j := (bin (FV I s) k b (bsg (FV I s) a k)).1) (x := nI ((bin (FV I s) k b (bsg (FV I s) a k)).2.2 ((bsg (FV I s) a k).2.1 k))) (y := nI b) hJ
                rw [est, e1]
                exact ⟨_, rfl, hup, hfr⟩
              · rw [if_neg c2]
                simp (disch := omega) only [o_b1_s, o_b2_s, o_b3_s, o_b4_s, o_s1_s, o_s2_l, o_s2_r, o_g_t, i_add, i_mul, i_sub, i_and, i_or, i_xor, i_sd, i_shl, Nat.one_mul, i_eq, i_lt, i_le, i_n0, i_0le, i_e0, i_0lt, i_le0, i_cl, bz_0, wp_s, lq_l, lq_r, if_true, if_false, ite_not, true_and, and_true]
                rw [same (fun h9 => c2 h9.2.2)]
                exact ⟨J, rfl, hE, hJ⟩
            · rw [if_neg (fun h9 => c0 (hz.1 h9))]
              simp (disch := omega) only [o_b1_s, o_b2_s, o_b3_s, o_b4_s, o_s1_s, o_s2_l, o_s2_r, o_g_t, i_add, i_mul, i_sub, i_and, i_or, i_xor, i_sd, i_shl, Nat.one_mul, i_eq, i_lt, i_le, i_n0, i_0le, i_e0, i_0lt, i_le0, i_cl, bz_0, wp_s, lq_l, lq_r, if_true, if_false, ite_not, true_and, and_true]
              rw [same (fun h9 => c0 h9.2.1)]
              exact ⟨J, rfl, hE, hJ⟩
        · rintro _ ⟨J, rfl, hE, hJ⟩
          simp (disch := omega) only [if_pos, if_neg, o_b1_s, o_b2_s, o_b3_s, o_b4_s, o_s1_s, o_s2_l, o_s2_r, o_g_t, i_add, i_mul, i_sub, i_and, i_or, i_xor, i_sd, i_shl, Nat.one_mul, i_eq, i_lt, i_le, i_n0, i_0le, i_e0, i_0lt, i_le0, i_cl, bz_0, wp_s, lq_l, lq_r, if_true, if_false, ite_not, true_and, and_true, m_302_b50, m_302_x50_136]
          refine ⟨J, rfl, fun j hj2 => ?_, hE, hJ⟩
          by_cases e : j = k
          · rw [e]
            exact hk2
          · exact hj j (by omega)
    · rintro _ ⟨J, rfl, hj, hE, hJ⟩
      have hle := BI_le (BI_sg ha 70 hj)
      simp (disch := omega) only [if_pos, if_neg, o_b1_s, o_b2_s, o_b3_s, o_b4_s, o_s1_s, o_s2_l, o_s2_r, o_g_t, i_add, i_mul, i_sub, i_and, i_or, i_xor, i_sd, i_shl, Nat.one_mul, i_eq, i_lt, i_le, i_n0, i_0le, i_e0, i_0lt, i_le0, i_cl, bz_0, wp_s, lq_l, lq_r, if_true, if_false, ite_not, true_and, and_true, m_302_b41, m_302_x41_142]
      exact ⟨70, ⟨by omega, hj⟩, hE, hJ⟩
