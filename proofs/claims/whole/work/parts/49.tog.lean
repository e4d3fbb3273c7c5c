/-! Call together. -/
theorem and_n0 {b S : Nat} : sd b S = 0 ↔ b &&& S = b := by
  rw [sub_tb]
  constructor
  · intro h i hi
    have h2 : (sd b S).testBit i = false := by rw [h, Nat.zero_testBit]
    rw [sd_bit, hi] at h2
    cases c : S.testBit i
    · rw [c] at h2
      cases h2
    · rfl
  · intro h
    apply Nat.eq_of_testBit_eq
    intro i
    rw [sd_bit, Nat.zero_testBit]
    cases c : b.testBit i
    · rfl
    · rw [h i c]
      rfl
theorem c_78 {I : ai_I} {t L v n r : Nat} {V : Nat → Int32} (hv : v ∈ VC) (hW : WF n r V) (h : CS I v n r V) : wp (m_78 v 73 I (Rc t) (Gc L)) (fun q => (∀ c, ¬ c = 73 → q.2 c = I c) ∧ ∃ F, FP V (2 ^ n) F ∧ q.1 = nI (F (2 ^ n - 1))) := by
  have hn := hW.2.1
  have h8 := p2_le hn
  have h0 := Nat.two_pow_pos n
  have hl := BL_len hW
  have hvv := vc_51 v hv
  unfold m_78
  refine wp_s1 (wp_lp (fun K s => ∃ F J, s = (nI K, J) ∧ (∀ c, ¬ c = 73 → J c = I c) ∧ FP V K F ∧ ∀ S, S < K → J 73 S = nI (F S)) 0 (2 ^ n) (Nat.zero_le _) (by omega) ⟨fun _ => 0, I, rfl, fun c hc => rfl, fun S h1 => absurd h1 (Nat.not_lt_zero _), fun S h1 => absurd h1 (Nat.not_lt_zero _)⟩ ?_ ?_)
  · rintro K _ hK ⟨F, J, rfl, hJ, hF, hT⟩
    have hC : CS J v n r V := CS_cong (fun _ _ => rfl) (hJ _ (by omega)) (hJ _ (by omega)) (hJ _ (by omega)) (hJ _ (by omega)) h
    simp (disch := omega) only [if_pos, if_neg, o_b1_s, o_b2_s, o_b3_s, o_b4_s, o_s1_s, o_s2_l, o_s2_r, o_g_t, i_add, i_mul, i_sub, i_and, i_or, i_xor, i_sd, i_shl, Nat.one_mul, i_eq, i_lt, i_le, i_n0, i_0le, i_e0, i_0lt, i_le0, i_cl, bz_0, wp_s, lq_l, lq_r, if_true, if_false, ite_not, true_and, and_true, m_78_b2, v_kd hv, c_118 hn hC.1]
    refine wp_s1 (wp_lp (fun p s => ∃ B, s = (nI B, nI p) ∧ B ≤ K ∧ (∀ q, q < p → (BL V).getD q 0 &&& K = (BL V).getD q 0 → F (K ^^^ (BL V).getD q 0) + 1 ≤ B) ∧ (B = 0 ∨ ∃ q, q < p ∧ (BL V).getD q 0 &&& K = (BL V).getD q 0 ∧ B = F (K ^^^ (BL V).getD q 0) + 1)) 0 (BL V).length (Nat.zero_le _) (by omega) ⟨0, rfl, Nat.zero_le _, fun q hq => absurd hq (Nat.not_lt_zero _), Or.inl rfl⟩ ?_ ?_)
    · rintro p _ hp ⟨B, rfl, hB, hq1, hq2⟩
      have hb := BL_at hp
      have hs1 := sd_lt (b := K) hb.1
      have hbp := (BL_p hW (BL_in hp)).2
      have hx : K ^^^ (BL V).getD p 0 < 256 := bit_xor_lt (by omega) hb.1
      simp (disch := omega) only [if_pos, if_neg, o_b1_s, o_b2_s, o_b3_s, o_b4_s, o_s1_s, o_s2_l, o_s2_r, o_g_t, i_add, i_mul, i_sub, i_and, i_or, i_xor, i_sd, i_shl, Nat.one_mul, i_eq, i_lt, i_le, i_n0, i_0le, i_e0, i_0lt, i_le0, i_cl, bz_0, wp_s, lq_l, lq_r, if_true, if_false, ite_not, true_and, and_true, m_78_b15, hC.2.2.1, v_rb hv, v_gb hv, hC.2.2.2.2.2, g_73, and_n0]
      split
      · rename_i c0
        have hlt := xor_lt2 c0 hbp
        have hFK := (hF _ hlt).1
        rw [hT _ hlt]
        simp (disch := omega) only [o_b1_s, o_b2_s, o_b3_s, o_b4_s, o_s1_s, o_s2_l, o_s2_r, o_g_t, i_add, i_mul, i_sub, i_and, i_or, i_xor, i_sd, i_shl, Nat.one_mul, i_eq, i_lt, i_le, i_n0, i_0le, i_e0, i_0lt, i_le0, i_cl, bz_0, wp_s, lq_l, lq_r, if_true, if_false, ite_not, true_and, and_true]
        split
        · rename_i c1
          refine ⟨_, rfl, by omega, fun q hq hz2 => ?_, Or.inr ⟨p, by omega, c0, rfl⟩⟩
          by_cases e : q = p
          · rw [e]
            exact Nat.le_refl _
          · have := hq1 q (by omega) hz2
            omega
        · rename_i c1
          refine ⟨B, rfl, hB, fun q hq hz2 => ?_, ?_⟩
          · by_cases e : q = p
            · rw [e]
              omega
            · exact hq1 q (by omega) hz2
          · rcases hq2 with hq2 | ⟨q, a1, a2, a3⟩
            · exact Or.inl hq2
            · exact Or.inr ⟨q, by omega, a2, a3⟩
      · rename_i c0
        simp (disch := omega) only [o_b1_s, o_b2_s, o_b3_s, o_b4_s, o_s1_s, o_s2_l, o_s2_r, o_g_t, i_add, i_mul, i_sub, i_and, i_or, i_xor, i_sd, i_shl, Nat.one_mul, i_eq, i_lt, i_le, i_n0, i_0le, i_e0, i_0lt, i_le0, i_cl, bz_0, wp_s, lq_l, lq_r, if_true, if_false, ite_not, true_and, and_true]
        refine ⟨B, rfl, hB, fun q hq hz2 => ?_, ?_⟩
        · by_cases e : q = p
          · rw [e] at hz2
            exact absurd hz2 c0
          · exact hq1 q (by omega) hz2
        · rcases hq2 with hq2 | ⟨q, a1, a2, a3⟩
          · exact Or.inl hq2
          · exact Or.inr ⟨q, by omega, a2, a3⟩
    · rintro _ ⟨B, rfl, hB, hq1, hq2⟩
      simp (disch := omega) only [if_pos, if_neg, o_b1_s, o_b2_s, o_b3_s, o_b4_s, o_s1_s, o_s2_l, o_s2_r, o_g_t, i_add, i_mul, i_sub, i_and, i_or, i_xor, i_sd, i_shl, Nat.one_mul, i_eq, i_lt, i_le, i_n0, i_0le, i_e0, i_0lt, i_le0, i_cl, bz_0, wp_s, lq_l, lq_r, if_true, if_false, ite_not, true_and, and_true, m_78_b15, hC.2.2.1, m_78_x15_62, g_73]
      refine ⟨va_up F K B, _, rfl, fun c hc => by rw [up_ne hc]; exact hJ c hc, fun S s2 => ?_, fun S hS => ?_⟩
      · by_cases e : S = K
        · rw [e, up_eq]
          refine ⟨hB, fun b hb hz2 => ?_, ?_⟩
          · have hlt := xor_lt2 hz2 (BL_p hW hb).2
            obtain ⟨q, hq, e2⟩ := BL_ix hb
            rw [up_ne (by omega), ← e2]
            rw [← e2] at hz2
            exact hq1 q hq hz2
          · rcases hq2 with hq2 | ⟨q, a1, a2, a3⟩
            · exact Or.inl hq2
            · have hlt := xor_lt2 a2 (BL_p hW (BL_in a1)).2
              exact Or.inr ⟨_, BL_in a1, a2, by rw [up_ne (by omega)]; exact a3⟩
        · obtain ⟨h1, h2, h3⟩ := hF S (by omega)
          rw [up_ne e]
          refine ⟨h1, fun b hb hz2 => ?_, ?_⟩
          · have hlt := xor_lt2 hz2 (BL_p hW hb).2
            rw [up_ne (by omega)]
            exact h2 b hb hz2
          · rcases h3 with h3 | ⟨b, a1, a2, a3⟩
            · exact Or.inl h3
            · have hlt := xor_lt2 a2 (BL_p hW a1).2
              exact Or.inr ⟨b, a1, a2, by rw [up_ne (by omega)]; exact a3⟩
      · rw [up_eq]
        by_cases e : S = K
        · rw [e, up_eq, up_eq]
        · rw [up_ne e, up_ne e]
          exact hT S (by omega)
  · rintro _ ⟨F, J, rfl, hJ, hF, hT⟩
    have hC : CS J v n r V := CS_cong (fun _ _ => rfl) (hJ _ (by omega)) (hJ _ (by omega)) (hJ _ (by omega)) (hJ _ (by omega)) h
    simp (disch := omega) only [if_pos, if_neg, o_b1_s, o_b2_s, o_b3_s, o_b4_s, o_s1_s, o_s2_l, o_s2_r, o_g_t, i_add, i_mul, i_sub, i_and, i_or, i_xor, i_sd, i_shl, Nat.one_mul, i_eq, i_lt, i_le, i_n0, i_0le, i_e0, i_0lt, i_le0, i_cl, bz_0, wp_s, lq_l, lq_r, if_true, if_false, ite_not, true_and, and_true, m_78_b2, v_kd hv, c_118 hn hC.1, m_78_x2_72, c_119 hn hC.1, g_73]
    exact ⟨hJ, F, hF, hT _ (by omega)⟩
theorem dwn_0le {m : Nat} (h : m < 2147483648) : (0 ≤ dwn m) = (0 < m) := by
  by_cases h0 : m = 0
  · subst h0
    exact propext ⟨fun h => absurd h (by decide), fun h => absurd h (by decide)⟩
  · rw [dwn_p (by omega)]
    exact propext ⟨fun _ => by omega, fun _ => nI_pos' (by omega)⟩
theorem dwn_le {a b : Nat} (ha : a < 2147483648) (hb : b < 2147483648) : (dwn a ≤ dwn b) = (a ≤ b) := by
  by_cases h0 : a = 0
  · subst h0
    refine propext ⟨fun _ => Nat.zero_le _, fun _ => ?_⟩
    by_cases h1 : b = 0
    · subst h1
      exact Int32.le_refl _
    · rw [dwn_p (m := b) (by omega)]
      exact Int32.le_trans (by decide) (nI_le (Nat.zero_le _) (by omega))
  · by_cases h1 : b = 0
    · subst h1
      rw [dwn_p (m := a) (by omega)]
      refine propext ⟨fun h => ?_, fun h => by omega⟩
      exact absurd (Int32.le_trans (nI_le (Nat.zero_le (a - 1)) (by omega)) h) (by decide)
    · rw [dwn_p (m := a) (by omega), dwn_p (m := b) (by omega), i_le (by omega) (by omega)]
      exact propext (by omega)
theorem dwn_1 (m : Nat) : dwn m + nI 1 = nI m := by
  unfold dwn
  rw [Int32.add_assoc, show (-1 : Int32) + nI 1 = 0 by decide, Int32.add_zero]
theorem s_191d {a b : Nat} (ha : a < 2147483648) (hb : b + 1 < 2147483648) : m_191 (dwn a) (nI b) = some (dwn (max a (b + 1))) := by
  rw [s_191, ← dwn_s b]
  by_cases h : a ≤ b + 1
  · rw [if_pos (by rw [dwn_le ha (by omega)]; exact h), Nat.max_eq_right h]
  · rw [if_neg (by rw [dwn_le ha (by omega)]; exact h), Nat.max_eq_left (by omega)]
theorem s_289 {I : ai_I} {t L s n r : Nat} (hs : s < 4) (hW : WF n r (FV I s)) (hI : I 76 (258 * s) = nI n) : wp (m_289 75 (nI s) I (Rc t) (Gc L)) (fun q => (∀ c, ¬ c = 86 → q.2 c = I c) ∧ ∃ H m, GP (FV I s) n (2 ^ n) H ∧ q.1 = nI m ∧ (∀ S, S < 2 ^ n → H S ≤ m + 1) ∧ ∃ S, S < 2 ^ n ∧ H S = m + 1) := by
  have hn := hW.2.1
  have h8 := p2_le hn
  have h0 := Nat.two_pow_pos n
  have hF : ∀ K : ai_I, (∀ c, ¬ c = 86 → K c = I c) → FV K s = FV I s := fun K hK => by
    unfold FV
    rw [hK 76 (by decide)]
  unfold m_289
  refine wp_s1 (wp_lp (fun i q => ∃ J, q = (nI i, J) ∧ (∀ c, ¬ c = 86 → J c = I c) ∧ ∀ S, S < i → J 86 S = dwn (if S = 0 then 1 else 0)) 0 256 (Nat.zero_le _) (by omega) ⟨I, rfl, fun _ _ => rfl, fun S h1 => absurd h1 (Nat.not_lt_zero _)⟩ ?_ ?_)
  · rintro i _ hi ⟨J, rfl, hJ, hT⟩
    have key : ∀ (x : Nat), x = (if i = 0 then 1 else 0) → (∀ c, ¬ c = 86 → va_up J 86 (va_up (J 86) i (dwn x)) c = I c) ∧ ∀ S, S < i + 1 → va_up J 86 (va_up (J 86) i (dwn x)) 86 S = dwn (if S = 0 then 1 else 0) := fun x hx => by
      refine ⟨fun c hc => by rw [up_ne hc]; exact hJ c hc, fun S hS => ?_⟩
      rw [up_eq]
      by_cases e : S = i
      · rw [e, up_eq, hx]
      · rw [up_ne e]
        exact hT S (by omega)
    simp (disch := omega) only [if_pos, if_neg, o_b1_s, o_b2_s, o_b3_s, o_b4_s, o_s1_s, o_s2_l, o_s2_r, o_g_t, i_add, i_mul, i_sub, i_and, i_or, i_xor, i_sd, i_shl, Nat.one_mul, i_eq, i_lt, i_le, i_n0, i_0le, i_e0, i_0lt, i_le0, i_cl, bz_0, wp_s, lq_l, lq_r, if_true, if_false, ite_not, true_and, and_true, m_289_b4, m_289_j25, r_75_25, g_86]
    split
    · rename_i c
      simp (disch := omega) only [o_b1_s, o_b2_s, o_b3_s, o_b4_s, o_s1_s, o_s2_l, o_s2_r, o_g_t, i_add, i_mul, i_sub, i_and, i_or, i_xor, i_sd, i_shl, Nat.one_mul, i_eq, i_lt, i_le, i_n0, i_0le, i_e0, i_0lt, i_le0, i_cl, bz_0, wp_s, lq_l, lq_r, if_true, if_false, ite_not, true_and, and_true]
      have e0 := key 1 (by rw [if_pos c])
      rw [dwn_s 0] at e0
      exact ⟨_, rfl, e0⟩
    · rename_i c
      simp (disch := omega) only [o_b1_s, o_b2_s, o_b3_s, o_b4_s, o_s1_s, o_s2_l, o_s2_r, o_g_t, i_add, i_mul, i_sub, i_and, i_or, i_xor, i_sd, i_shl, Nat.one_mul, i_eq, i_lt, i_le, i_n0, i_0le, i_e0, i_0lt, i_le0, i_cl, bz_0, wp_s, lq_l, lq_r, if_true, if_false, ite_not, true_and, and_true]
      have e0 := key 0 (by rw [if_neg c])
      rw [dwn_0] at e0
      exact ⟨_, rfl, e0⟩
  · rintro _ ⟨J, rfl, hJ, hT⟩
    simp (disch := omega) only [if_pos, if_neg, o_b1_s, o_b2_s, o_b3_s, o_b4_s, o_s1_s, o_s2_l, o_s2_r, o_g_t, i_add, i_mul, i_sub, i_and, i_or, i_xor, i_sd, i_shl, Nat.one_mul, i_eq, i_lt, i_le, i_n0, i_0le, i_e0, i_0lt, i_le0, i_cl, bz_0, wp_s, lq_l, lq_r, if_true, if_false, ite_not, true_and, and_true, m_289_b4, m_289_x4_32]
    refine wp_s1 (wp_lp (fun K q => ∃ J H m, q = (nI m, nI K, J) ∧ (∀ c, ¬ c = 86 → J c = I c) ∧ GP (FV I s) n K H ∧ (∀ S, S < 256 → J 86 S = dwn (H S)) ∧ m ≤ K ∧ (∀ S, S < K → H S ≤ m + 1) ∧ (∃ S, S < 2 ^ n ∧ S ≤ K ∧ H S = m + 1)) 0 (2 ^ n) (Nat.zero_le _) (by omega) ⟨J, fun S => if S = 0 then 1 else 0, 0, rfl, hJ, ⟨Nat.one_pos, fun S hS => ?_, fun k hk => absurd hk (Nat.not_lt_zero _)⟩, hT, Nat.zero_le _, fun S hS => absurd hS (Nat.not_lt_zero _), 0, h0, Nat.le_refl _, rfl⟩ ?_ ?_)
    · by_cases e : S = 0
      · subst e
        exact Or.inr ⟨Nat.le_refl _, h0, [], rfl, fun b hb => absurd hb (List.not_mem_nil), trivial, rfl⟩
      · exact Or.inl (if_neg e)
    · rintro K _ hK ⟨J, H0, m, rfl, hJ, hG, hT, hm, hm1, S0, hS0, hS1, hS2⟩
      have hHK : H0 K ≤ K + 1 := by
        rcases hG.2.1 K (by omega) with e | ⟨e, -, -⟩ <;> omega
      have h9 : (0 : Int32) ≤ J 86 K ↔ 0 < H0 K := by
        rw [hT K (by omega), dwn_0le (by omega)]
      simp (disch := omega) only [if_pos, if_neg, o_b1_s, o_b2_s, o_b3_s, o_b4_s, o_s1_s, o_s2_l, o_s2_r, o_g_t, i_add, i_mul, i_sub, i_and, i_or, i_xor, i_sd, i_shl, Nat.one_mul, i_eq, i_lt, i_le, i_n0, i_0le, i_e0, i_0lt, i_le0, i_cl, bz_0, wp_s, lq_l, lq_r, if_true, if_false, ite_not, true_and, and_true, m_289_b34, s_197 (s := s) (n := n) (I := J) (by omega) hn (by rw [hJ 76 (by decide)]; exact hI), r_75_25, g_86]
      split
      · rename_i c0'
        have c0 := h9.1 c0'
        rw [hT K (by omega), dwn_p c0, s_191n (by omega) (by omega)]
        simp (disch := omega) only [o_b1_s, o_b2_s, o_b3_s, o_b4_s, o_s1_s, o_s2_l, o_s2_r, o_g_t, i_add, i_mul, i_sub, i_and, i_or, i_xor, i_sd, i_shl, Nat.one_mul, i_eq, i_lt, i_le, i_n0, i_0le, i_e0, i_0lt, i_le0, i_cl, bz_0, wp_s, lq_l, lq_r, if_true, if_false, ite_not, true_and, and_true]
        refine wp_s1 (wp_lp (fun b q => ∃ J H, q = (nI b, J) ∧ (∀ c, ¬ c = 86 → J c = I c) ∧ GP (FV I s) n K H ∧ (∀ S, S < 256 → J 86 S = dwn (H S)) ∧ 0 < H K ∧ H K ≤ max m (H0 K - 1) + 1 ∧ (∀ S, S < K → H S ≤ m + 1) ∧ (∃ S, S < 2 ^ n ∧ S ≤ K ∧ H S = max m (H0 K - 1) + 1) ∧ (∀ c, c < b → c ∈ BL (FV I s) → c &&& K = 0 → H K + 1 ≤ H (K ||| c))) 0 256 (Nat.zero_le _) (by omega) ⟨J, H0, rfl, hJ, hG, hT, c0, by omega, hm1, ?_, fun c hc => absurd hc (Nat.not_lt_zero _)⟩ ?_ ?_)
        · by_cases e : H0 K - 1 ≤ m
          · exact ⟨S0, hS0, hS1, by rw [Nat.max_eq_left e]; exact hS2⟩
          · exact ⟨K, hK, Nat.le_refl _, by rw [Nat.max_eq_right (by omega)]; omega⟩
        · rintro b _ hb ⟨J, H', rfl, hJ, hG, hT, d0, d1, d2, ⟨S1, d3, d4, d5⟩, d6⟩
          have hHK : H' K ≤ K + 1 := by
            rcases hG.2.1 K (by omega) with e | ⟨e, -, -⟩ <;> omega
          have ho : K ||| b < 256 := bit_or_lt (by omega) hb
          have ho2 : b &&& K < 256 := bit_and_lt (by omega)
          have hHb : H' (K ||| b) ≤ 257 := by
            rcases hG.2.1 (K ||| b) ho with e | ⟨e, -, -⟩ <;> omega
          simp (disch := omega) only [if_pos, if_neg, o_b1_s, o_b2_s, o_b3_s, o_b4_s, o_s1_s, o_s2_l, o_s2_r, o_g_t, i_add, i_mul, i_sub, i_and, i_or, i_xor, i_sd, i_shl, Nat.one_mul, i_eq, i_lt, i_le, i_n0, i_0le, i_e0, i_0lt, i_le0, i_cl, bz_0, wp_s, lq_l, lq_r, if_true, if_false, ite_not, true_and, and_true, m_289_b69, r_75_25, g_86, hT, s_199, hF J hJ, dwn_1, s_191d]
          split
          · rename_i c1
            simp (disch := omega) only [o_b1_s, o_b2_s, o_b3_s, o_b4_s, o_s1_s, o_s2_l, o_s2_r, o_g_t, i_add, i_mul, i_sub, i_and, i_or, i_xor, i_sd, i_shl, Nat.one_mul, i_eq, i_lt, i_le, i_n0, i_0le, i_e0, i_0lt, i_le0, i_cl, bz_0, wp_s, lq_l, lq_r, if_true, if_false, ite_not, true_and, and_true]
            refine ⟨J, H', rfl, hJ, hG, hT, d0, d1, d2, ⟨S1, d3, d4, d5⟩, fun c hc hc2 h9 => ?_⟩
            by_cases e : c = b
            · subst e
              exact absurd c1 (BL_mem.1 hc2).2
            · exact d6 c (by omega) hc2 h9
          · rename_i c1
            have hbB : b ∈ BL (FV I s) := BL_mem.2 ⟨hb, c1⟩
            split
            · rename_i c2
              obtain ⟨u1, u2, u3⟩ := GP_up hW hK hbB d0 c2 hG
              have hlt : K < K ||| b := or_lt (fun h2 => by
                rw [Nat.and_comm, c2] at h2
                have := (BL_p hW hbB).2
                omega)
              simp (disch := omega) only [o_b1_s, o_b2_s, o_b3_s, o_b4_s, o_s1_s, o_s2_l, o_s2_r, o_g_t, i_add, i_mul, i_sub, i_and, i_or, i_xor, i_sd, i_shl, Nat.one_mul, i_eq, i_lt, i_le, i_n0, i_0le, i_e0, i_0lt, i_le0, i_cl, bz_0, wp_s, lq_l, lq_r, if_true, if_false, ite_not, true_and, and_true]
              refine ⟨_, va_up H' (K ||| b) (max (H' (K ||| b)) (H' K + 1)), rfl, fun c hc => by rw [up_ne hc]; exact hJ c hc, u1, fun S hS => ?_, by rw [u3]; exact d0, by rw [u3]; exact d1, fun S hS => by rw [up_ne (by omega)]; exact d2 S hS, ⟨S1, d3, d4, by rw [up_ne (by omega)]; exact d5⟩, fun c hc hc2 h9 => ?_⟩
              · rw [up_eq]
                by_cases e : S = K ||| b
                · rw [e, up_eq, up_eq]
                · rw [up_ne e, up_ne e]
                  exact hT S hS
              · rw [u3]
                by_cases e : c = b
                · subst e
                  rw [up_eq]
                  exact Nat.le_max_right _ _
                · exact Nat.le_trans (d6 c (by omega) hc2 h9) (u2 _)
            · rename_i c2
              simp (disch := omega) only [o_b1_s, o_b2_s, o_b3_s, o_b4_s, o_s1_s, o_s2_l, o_s2_r, o_g_t, i_add, i_mul, i_sub, i_and, i_or, i_xor, i_sd, i_shl, Nat.one_mul, i_eq, i_lt, i_le, i_n0, i_0le, i_e0, i_0lt, i_le0, i_cl, bz_0, wp_s, lq_l, lq_r, if_true, if_false, ite_not, true_and, and_true]
              refine ⟨J, H', rfl, hJ, hG, hT, d0, d1, d2, ⟨S1, d3, d4, d5⟩, fun c hc hc2 h9 => ?_⟩
              by_cases e : c = b
              · subst e
                exact absurd h9 c2
              · exact d6 c (by omega) hc2 h9
        · rintro _ ⟨J, H', rfl, hJ, hG, hT, d0, d1, d2, ⟨S1, d3, d4, d5⟩, d6⟩
          simp (disch := omega) only [if_pos, if_neg, o_b1_s, o_b2_s, o_b3_s, o_b4_s, o_s1_s, o_s2_l, o_s2_r, o_g_t, i_add, i_mul, i_sub, i_and, i_or, i_xor, i_sd, i_shl, Nat.one_mul, i_eq, i_lt, i_le, i_n0, i_0le, i_e0, i_0lt, i_le0, i_cl, bz_0, wp_s, lq_l, lq_r, if_true, if_false, ite_not, true_and, and_true, m_289_b69, m_289_x69_129]
          refine ⟨J, H', max m (H0 K - 1), rfl, hJ, ⟨hG.1, hG.2.1, fun k hk c hc hz h9 => ?_⟩, hT, by omega, fun S hS => ?_, S1, d3, by omega, d5⟩
          · by_cases e : k = K
            · rw [e] at hz h9 ⊢
              exact d6 c (BL_mem.1 hc).1 hc hz
            · exact hG.2.2 k (by omega) c hc hz h9
          · by_cases e : S = K
            · rw [e]
              exact d1
            · have := d2 S (by omega)
              omega
      · rename_i c0'
        have c0 : ¬ 0 < H0 K := fun h => c0' (h9.2 h)
        simp (disch := omega) only [o_b1_s, o_b2_s, o_b3_s, o_b4_s, o_s1_s, o_s2_l, o_s2_r, o_g_t, i_add, i_mul, i_sub, i_and, i_or, i_xor, i_sd, i_shl, Nat.one_mul, i_eq, i_lt, i_le, i_n0, i_0le, i_e0, i_0lt, i_le0, i_cl, bz_0, wp_s, lq_l, lq_r, if_true, if_false, ite_not, true_and, and_true]
        refine ⟨J, H0, m, rfl, hJ, ⟨hG.1, hG.2.1, fun k hk c hc hz h9 => ?_⟩, hT, by omega, fun S hS => ?_, S0, hS0, by omega, hS2⟩
        · by_cases e : k = K
          · rw [e] at h9
            exact absurd h9 c0
          · exact hG.2.2 k (by omega) c hc hz h9
        · by_cases e : S = K
          · rw [e]
            omega
          · exact hm1 S (by omega)
    · rintro _ ⟨J, H, m, rfl, hJ, hG, hT, hm, hm1, S0, hS0, hS1, hS2⟩
      simp (disch := omega) only [if_pos, if_neg, o_b1_s, o_b2_s, o_b3_s, o_b4_s, o_s1_s, o_s2_l, o_s2_r, o_g_t, i_add, i_mul, i_sub, i_and, i_or, i_xor, i_sd, i_shl, Nat.one_mul, i_eq, i_lt, i_le, i_n0, i_0le, i_e0, i_0lt, i_le0, i_cl, bz_0, wp_s, lq_l, lq_r, if_true, if_false, ite_not, true_and, and_true, m_289_b34, s_197 (s := s) (n := n) (I := J) (by omega) hn (by rw [hJ 76 (by decide)]; exact hI), m_289_x34_135]
      exact ⟨hJ, H, m, hG, rfl, hm1, S0, hS0, hS2⟩
theorem op_together {I : ai_I} {t L : Nat} (h : ST I) (s x : Int32) : OPc I (m_158 1 s x I (Rc t) (Gc L)) (fun I1 => m_290 75 s x I1 (Rc t) (Gc L)) := by
  rcases x_cases s (n := 3) (by decide) with ⟨k, hk, rfl⟩ | hs
  · obtain ⟨n, r, hW, hC, hI, hIr⟩ := h.1 k (by omega)
    have hn := hW.2.1
    have hv := vc_s (s := k) (by omega)
    have fin : ∀ J K : ai_I, (∀ c, ¬ c = 73 → J c = I c) → (∀ c, ¬ c = 86 → K c = J c) → SAME I K := fun J K hJ hK => ⟨fun c hc => by rw [hK c (by omega), hJ c (by omega)], fun i _ => by rw [hK 76 (by decide), hJ 76 (by decide)], by rw [hK 77 (by decide), hJ 77 (by decide)], by rw [hK 75 (by decide), hJ 75 (by decide)], by rw [hK 75 (by decide), hJ 75 (by decide)], by rw [hK 1999 (by decide), hJ 1999 (by decide)]⟩
    rcases x_cases x (n := 1) (by decide) with ⟨w, hw, rfl⟩ | hx
    · by_cases hw0 : w = 0
      · subst hw0
        obtain ⟨q, q1, q2, F, q3, q4⟩ := c_77 (t := t) (L := L) hv hW hC
        have hF : FV q.2 k = FV I k := by
          unfold FV
          rw [q2 76 (by decide)]
        obtain ⟨p, p1, p2, G, p3, p4⟩ := s_288 (I := q.2) (t := t) (L := L) (s := k) (n := n) (r := r) (by omega) (by rw [hF]; exact hW) (by rw [q2 76 (by decide)]; exact hI)
        rw [hF] at p3
        obtain ⟨e1, e2⟩ := cov_one hW p3 (fun hz => (q3 hz).1)
        refine ⟨q.1, q.2, p.2, ?_, ?_, fin _ _ q2 p2, q2 1999 (by decide)⟩
        · unfold m_158
          rw [r_1_0, k_2, o_g_t, c_96 (by omega), o_b1_s, if_neg (by omega), q_n0 (by decide), q_leT (by decide) (by decide), if_pos (by decide), r_1_13, q1, o_b2]
        · show m_290 75 (nI k) (nI 0) q.2 (Rc t) (Gc L) = _
          unfold m_290
          rw [s_200, o_b1_s, q_bz, if_pos (nI_in03 hk), j_lit.2.1, j1_lit, s_189i, o_b1_s, q_bz, if_pos ⟨nI_le (by omega) (by omega), nI_le hw (by decide)⟩, if_pos (by decide), p1, o_b2]
          have e : p.1 = q.1 := by
            rw [p4]
            by_cases hz : lps (FV I k) n = 0
            · obtain ⟨e3, e4⟩ := e1 hz
              rw [(q3 hz).2, if_neg (by omega), e3]
            · rw [q4 hz, if_pos (e2 hz)]
          rw [e]
      · obtain ⟨q, q1, q2, F, q3, q4⟩ := c_78 (t := t) (L := L) hv hW hC
        have hF : FV q.2 k = FV I k := by
          unfold FV
          rw [q2 76 (by decide)]
        obtain ⟨p, p1, p2, H, m, p3, p4, p5, p6⟩ := s_289 (I := q.2) (t := t) (L := L) (s := k) (n := n) (r := r) (by omega) (by rw [hF]; exact hW) (by rw [q2 76 (by decide)]; exact hI)
        rw [hF] at p3
        have e1 := pack_one hW q3 p3 p5 p6
        refine ⟨q.1, q.2, p.2, ?_, ?_, fin _ _ q2 p2, q2 1999 (by decide)⟩
        · unfold m_158
          rw [r_1_0, k_2, o_g_t, c_96 (by omega), o_b1_s, if_neg (by omega), q_n0 (by omega), q_leT (by decide) hw, q_e0 (by omega), if_neg hw0, r_1_13, q1, o_b2]
        · show m_290 75 (nI k) (nI w) q.2 (Rc t) (Gc L) = _
          unfold m_290
          rw [s_200, o_b1_s, q_bz, if_pos (nI_in03 hk), j_lit.2.1, j1_lit, s_189i, o_b1_s, q_bz, if_pos ⟨nI_le (by omega) (by omega), nI_le hw (by decide)⟩, q_e0 (by omega), if_neg hw0, p1, o_b2, p4, q4, e1]
    · refine ⟨-1, I, I, ?_, ?_, SAME_rf, rfl⟩
      · unfold m_158
        rw [r_1_0, k_2, o_g_t, c_96 (by omega), o_b1_s, if_neg (by omega)]
        by_cases h1 : x < 0
        · rw [if_pos h1]
        · rw [if_neg h1, if_neg (fun h2 => hx ⟨Int32.not_lt.1 h1, h2⟩)]
      · show m_290 75 (nI k) x I (Rc t) (Gc L) = _
        unfold m_290
        rw [s_200, o_b1_s, q_bz, if_pos (nI_in03 hk), j_lit.2.1, j1_lit, s_189i, o_b1_s, q_bz, if_neg hx]
  · refine ⟨-1, I, I, ?_, ?_, SAME_rf, rfl⟩
    · unfold m_158
      rw [r_1_0, k_2, o_g_t, c_96o hs, o_b1_s, if_pos rfl]
    · show m_290 75 s x I (Rc t) (Gc L) = _
      unfold m_290
      rw [s_200, o_b1_s, q_bz, if_neg hs]
