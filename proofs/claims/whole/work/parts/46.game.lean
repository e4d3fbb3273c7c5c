/-! Call game. -/
/-- an element can be taken so that the other has lost -/
def gcn (V T : Nat → Int32) (k e : Nat) : Prop := k.testBit e = false ∧ rk V (k ||| 2 ^ e) = pc (k ||| 2 ^ e) ∧ T (k ||| 2 ^ e) = 0
/-- w is what stands at k behind the elements n - 1 .. m: the least of them that wins -/
def gwv (V T : Nat → Int32) (n k m : Nat) (w : Int32) : Prop := (w = nI 0 ∧ ∀ e, m ≤ e → e < n → ¬ gcn V T k e) ∨ (∃ e, m ≤ e ∧ e < n ∧ w = nI (1 + e) ∧ gcn V T k e ∧ ∀ j, m ≤ j → j < e → ¬ gcn V T k j)
theorem gwv_y {V T : Nat → Int32} {n k m : Nat} {w : Int32} (hm : m < n) (h : gcn V T k m) : gwv V T n k m (nI (1 + m)) := Or.inr ⟨m, Nat.le_refl _, hm, rfl, h, fun j h1 h2 => absurd h2 (by omega)⟩
theorem gwv_n {V T : Nat → Int32} {n k m : Nat} {w : Int32} (h : ¬ gcn V T k m) (hw : gwv V T n k (m + 1) w) : gwv V T n k m w := by
  have key : ∀ j, m ≤ j → ¬ j = m → m + 1 ≤ j := fun j h1 h2 => by omega
  rcases hw with ⟨h1, h2⟩ | ⟨e, h1, h2, h3, h4, h5⟩
  · refine Or.inl ⟨h1, fun e he he2 => ?_⟩
    by_cases c : e = m
    · rw [c]
      exact h
    · exact h2 e (key e he c) he2
  · refine Or.inr ⟨e, by omega, h2, h3, h4, fun j hj hj2 => ?_⟩
    by_cases c : j = m
    · rw [c]
      exact h
    · exact h5 j (key j hj c) hj2
theorem gwv_cong {V T U : Nat → Int32} {n k m : Nat} {w : Int32} (h : ∀ e, e < n → k.testBit e = false → rk V (k ||| 2 ^ e) = pc (k ||| 2 ^ e) → T (k ||| 2 ^ e) = U (k ||| 2 ^ e)) (hw : gwv V T n k m w) : gwv V U n k m w := by
  have key : ∀ e, e < n → (gcn V T k e ↔ gcn V U k e) := fun e he => ⟨fun ⟨a, b, c⟩ => ⟨a, b, (h e he a b) ▸ c⟩, fun ⟨a, b, c⟩ => ⟨a, b, (h e he a b).symm ▸ c⟩⟩
  rcases hw with ⟨h1, h2⟩ | ⟨e, h1, h2, h3, h4, h5⟩
  · exact Or.inl ⟨h1, fun e he he2 => fun hh => h2 e he he2 ((key e he2).2 hh)⟩
  · exact Or.inr ⟨e, h1, h2, h3, (key e h2).1 h4, fun j hj hj2 => fun hh => h5 j hj hj2 ((key j (by omega)).2 hh)⟩
theorem gwv_one {V T : Nat → Int32} {n k m : Nat} {w u : Int32} (h1 : gwv V T n k m w) (h2 : gwv V T n k m u) : w = u := by
  rcases h1 with ⟨a1, a2⟩ | ⟨e, a1, a2, a3, a4, a5⟩
  · rcases h2 with ⟨b1, b2⟩ | ⟨f, b1, b2, b3, b4, b5⟩
    · rw [a1, b1]
    · exact absurd b4 (a2 f b1 b2)
  · rcases h2 with ⟨b1, b2⟩ | ⟨f, b1, b2, b3, b4, b5⟩
    · exact absurd a4 (b2 e a1 a2)
    · by_cases c : e < f
      · exact absurd a4 (b5 e a1 c)
      · by_cases c2 : f < e
        · exact absurd b4 (a5 f b1 c2)
        · rw [a3, b3, show e = f by omega]
theorem or_bit : ∀ k, k < 256 → ∀ e, e < 8 → (k ||| 2 ^ e = k ↔ k.testBit e = true) := by decide +kernel
theorem or_gt : ∀ k, k < 256 → ∀ e, e < 8 → k.testBit e = false → k < k ||| 2 ^ e := by decide +kernel
theorem not_tb {k e : Nat} (h : ¬ k.testBit e = true) : k.testBit e = false := by
  cases c : k.testBit e
  · rfl
  · exact absurd c h
theorem c_86 {I : ai_I} {t L v n r : Nat} {V : Nat → Int32} (hv : v ∈ VC) (hW : WF n r V) (h : CS I v n r V) : wp (m_86 v 73 I (Rc t) (Gc L)) (fun J => (∀ c, ¬ c = 73 → J c = I c) ∧ ∀ k, k < 2 ^ n → gwv V (J 73) n k 0 (J 73 k)) := by
  have hn := hW.2.1
  have hn2 := hW.1
  have h8 := p2_le hn
  have h0 := Nat.two_pow_pos n
  have hvv := vc_51 v hv
  unfold m_86
  rw [v_kd hv, o_g_t, c_119 hn h.1, o_b1_s, ← dwn_p h0]
  refine wp_s1 (wp_lpd (fun m s => ∃ J, s = (dwn m, J) ∧ (∀ c, ¬ c = 73 → J c = I c) ∧ ∀ k, m ≤ k → k < 2 ^ n → gwv V (J 73) n k 0 (J 73 k)) 0 (2 ^ n) (Nat.zero_le _) (by omega) ⟨I, rfl, fun _ _ => rfl, fun k h1 h2 => absurd h2 (by omega)⟩ ?_ ?_)
  · rintro m _ - hm ⟨J, rfl, hJ, hP⟩
    rw [dwn_s]
    simp (disch := omega) only [if_pos, if_neg, o_b1_s, o_b2_s, o_b3_s, o_b4_s, o_s1_s, o_s2_l, o_s2_r, o_g_t, i_add, i_mul, i_sub, i_and, i_or, i_xor, i_sd, i_shl, Nat.one_mul, i_eq, i_lt, i_le, i_n0, i_0le, i_e0, i_0lt, i_le0, i_cl, bz_0, wp_s, lq_l, lq_r, if_true, if_false, ite_not, true_and, and_true, m_86_b5, g_73, up_eq, up_ne, hJ, h.1]
    rw [← dwn_p (show 0 < n by omega)]
    refine wp_s1 (wp_lpd (fun d s => ∃ K, s = (dwn d, K) ∧ (∀ c, ¬ c = 73 → K c = I c) ∧ (∀ k, ¬ k = m → K 73 k = J 73 k) ∧ gwv V (J 73) n m d (K 73 m)) 0 n (Nat.zero_le _) (by omega) ⟨_, rfl, fun c hc => by rw [up_ne hc]; exact hJ c hc, fun k hk => by rw [up_eq, up_ne hk], by rw [up_eq, up_eq]; exact Or.inl ⟨rfl, fun e h1 h2 => absurd h2 (by omega)⟩⟩ ?_ ?_)
    · rintro d _ - hd ⟨K, rfl, hK, hk, hg⟩
      have pd := p2_lt (show d < 8 by omega)
      have ho : m ||| 2 ^ d < 256 := bit_or_lt (by omega) pd
      have hC : CS K v n r V := CS_cong (fun _ _ => rfl) (hK _ (by omega)) (hK _ (by omega)) (hK _ (by omega)) (hK _ (by omega)) h
      rw [dwn_s]
      simp (disch := omega) only [if_pos, if_neg, o_b1_s, o_b2_s, o_b3_s, o_b4_s, o_s1_s, o_s2_l, o_s2_r, o_g_t, i_add, i_mul, i_sub, i_and, i_or, i_xor, i_sd, i_shl, Nat.one_mul, i_eq, i_lt, i_le, i_n0, i_0le, i_e0, i_0lt, i_le0, i_cl, bz_0, wp_s, lq_l, lq_r, if_true, if_false, ite_not, true_and, and_true, m_86_b20, g_73, c_123 hv hC, or_bit, i_m1]
      split
      · rename_i c1
        simp (disch := omega) only [o_b1_s, o_b2_s, o_b3_s, o_b4_s, o_s1_s, o_s2_l, o_s2_r, o_g_t, i_add, i_mul, i_sub, i_and, i_or, i_xor, i_sd, i_shl, Nat.one_mul, i_eq, i_lt, i_le, i_n0, i_0le, i_e0, i_0lt, i_le0, i_cl, bz_0, wp_s, lq_l, lq_r, if_true, if_false, ite_not, true_and, and_true]
        exact ⟨_, rfl, hK, hk, gwv_n (fun h9 => by rw [h9.1] at c1; cases c1) hg⟩
      · rename_i c1
        have c1f := not_tb c1
        have hgt := or_gt m (by omega) d (by omega) c1f
        split
        · rename_i c2
          rw [hk (m ||| 2 ^ d) (by omega)]
          split
          · rename_i c3
            simp (disch := omega) only [o_b1_s, o_b2_s, o_b3_s, o_b4_s, o_s1_s, o_s2_l, o_s2_r, o_g_t, i_add, i_mul, i_sub, i_and, i_or, i_xor, i_sd, i_shl, Nat.one_mul, i_eq, i_lt, i_le, i_n0, i_0le, i_e0, i_0lt, i_le0, i_cl, bz_0, wp_s, lq_l, lq_r, if_true, if_false, ite_not, true_and, and_true]
            refine ⟨_, rfl, fun c hc => by rw [up_ne hc]; exact hK c hc, fun k hk2 => by rw [up_eq, up_ne hk2]; exact hk k hk2, ?_⟩
            rw [up_eq, up_eq]
            exact gwv_y (w := 0) hd ⟨c1f, c2, c3⟩
          · rename_i c3
            simp (disch := omega) only [o_b1_s, o_b2_s, o_b3_s, o_b4_s, o_s1_s, o_s2_l, o_s2_r, o_g_t, i_add, i_mul, i_sub, i_and, i_or, i_xor, i_sd, i_shl, Nat.one_mul, i_eq, i_lt, i_le, i_n0, i_0le, i_e0, i_0lt, i_le0, i_cl, bz_0, wp_s, lq_l, lq_r, if_true, if_false, ite_not, true_and, and_true]
            exact ⟨_, rfl, hK, hk, gwv_n (fun h9 => c3 h9.2.2) hg⟩
        · rename_i c2
          simp (disch := omega) only [o_b1_s, o_b2_s, o_b3_s, o_b4_s, o_s1_s, o_s2_l, o_s2_r, o_g_t, i_add, i_mul, i_sub, i_and, i_or, i_xor, i_sd, i_shl, Nat.one_mul, i_eq, i_lt, i_le, i_n0, i_0le, i_e0, i_0lt, i_le0, i_cl, bz_0, wp_s, lq_l, lq_r, if_true, if_false, ite_not, true_and, and_true]
          exact ⟨_, rfl, hK, hk, gwv_n (fun h9 => c2 h9.2.1) hg⟩
    · rintro _ ⟨K, rfl, hK, hk, hg⟩
      rw [dwn_0]
      simp (disch := omega) only [if_pos, if_neg, o_b1_s, o_b2_s, o_b3_s, o_b4_s, o_s1_s, o_s2_l, o_s2_r, o_g_t, i_add, i_mul, i_sub, i_and, i_or, i_xor, i_sd, i_shl, Nat.one_mul, i_eq, i_lt, i_le, i_n0, i_0le, i_e0, i_0lt, i_le0, i_cl, bz_0, wp_s, lq_l, lq_r, if_true, if_false, ite_not, true_and, and_true, m_86_b20, m_86_x20_65, i_m1, if_pos (show (-1 : Int32) < 0 by decide)]
      have hc : ∀ q, q < 2 ^ n → ∀ e, e < n → q.testBit e = false → m ≤ q → J 73 (q ||| 2 ^ e) = K 73 (q ||| 2 ^ e) := fun q hq e he h1 h2 => by
        have := or_gt q (by omega) e (by omega) h1
        exact (hk _ (by omega)).symm
      refine ⟨K, rfl, hK, fun q hq hq2 => ?_⟩
      by_cases e : q = m
      · subst e
        exact gwv_cong (fun e he h1 h2 => hc q hm e he h1 (Nat.le_refl _)) hg
      · rw [hk q e]
        exact gwv_cong (fun e he h1 h2 => hc q hq2 e he h1 (by omega)) (hP q (by omega) hq2)
  · rintro _ ⟨J, rfl, hJ, hP⟩
    rw [dwn_0]
    simp (disch := omega) only [if_pos, if_neg, o_b1_s, o_b2_s, o_b3_s, o_b4_s, o_s1_s, o_s2_l, o_s2_r, o_g_t, i_add, i_mul, i_sub, i_and, i_or, i_xor, i_sd, i_shl, Nat.one_mul, i_eq, i_lt, i_le, i_n0, i_0le, i_e0, i_0lt, i_le0, i_cl, bz_0, wp_s, lq_l, lq_r, if_true, if_false, ite_not, true_and, and_true, m_86_b5, m_86_x5_71, if_pos (show (-1 : Int32) < 0 by decide)]
    exact ⟨hJ, fun k hk => hP k (Nat.zero_le _) hk⟩
theorem s_320 {I : ai_I} {t L s n r set : Nat} (hs : s < 4) (hW : WF n r (FV I s)) (hI : I 76 (258 * s) = nI n) (hset : set < 2 ^ n) : wp (o_s1 (lp (fun q => m_320_b33 75 (nI s) (nI set) (Rc t) (Gc L) q.1 q.2) o_N (nI (2 ^ n - 1), I)) (fun q => m_320_x33_130 75 (nI set) (Rc t) (Gc L) q)) (fun q => ∃ T, q.1 = T set ∧ (∀ c, ¬ c = 93 → q.2 c = I c) ∧ ∀ k, set ≤ k → k < 2 ^ n → rk (FV I s) k = pc k → gwv (FV I s) T n k 0 (T k)) := by
  have hn := hW.2.1
  have hn2 := hW.1
  have h8 := p2_le hn
  have h0 := Nat.two_pow_pos n
  rw [← dwn_p h0]
  refine wp_s1 (wp_lpd (fun m s_1 => ∃ J, s_1 = (dwn m, J) ∧ (∀ c, ¬ c = 93 → J c = I c) ∧ ∀ k, m ≤ k → k < 2 ^ n → rk (FV I s) k = pc k → gwv (FV I s) (J 93) n k 0 (J 93 k)) set (2 ^ n) (by omega) (by omega) ⟨I, rfl, fun _ _ => rfl, fun k h1 h2 => absurd h2 (by omega)⟩ ?_ ?_)
  · rintro m _ hsm hm ⟨J, rfl, hJ, hP⟩
    have hF : ∀ K : ai_I, (∀ c, ¬ c = 93 → K c = I c) → FV K s = FV I s := fun K hK => by
      unfold FV
      rw [hK 76 (by decide)]
    have hc : ∀ K : ai_I, (∀ k, ¬ k = m → K 93 k = J 93 k) → ∀ q, q < 2 ^ n → ∀ e, e < n → q.testBit e = false → m ≤ q → J 93 (q ||| 2 ^ e) = K 93 (q ||| 2 ^ e) := fun K hk q hq e he h1 h2 => by
      have := or_gt q (by omega) e (by omega) h1
      exact (hk _ (by omega)).symm
    rw [dwn_s]
    simp (disch := omega) only [if_pos, if_neg, o_b1_s, o_b2_s, o_b3_s, o_b4_s, o_s1_s, o_s2_l, o_s2_r, o_g_t, i_add, i_mul, i_sub, i_and, i_or, i_xor, i_sd, i_shl, Nat.one_mul, i_eq, i_lt, i_le, i_n0, i_0le, i_e0, i_0lt, i_le0, i_cl, bz_0, wp_s, lq_l, lq_r, if_true, if_false, ite_not, true_and, and_true, m_320_b33, r_75_33, g_93]
    rw [s_252 (by omega) (by omega), hF _ (fun c hc => by rw [up_ne hc]; exact hJ c hc)]
    simp (disch := omega) only [o_b1_s, o_b2_s, o_b3_s, o_b4_s, o_s1_s, o_s2_l, o_s2_r, o_g_t, i_add, i_mul, i_sub, i_and, i_or, i_xor, i_sd, i_shl, Nat.one_mul, i_eq, i_lt, i_le, i_n0, i_0le, i_e0, i_0lt, i_le0, i_cl, bz_0, wp_s, lq_l, lq_r, if_true, if_false, ite_not, true_and, and_true]
    split
    · rename_i cf
      rw [s_195 (by omega), up_ne (by decide), hJ 76 (by decide), hI]
      simp (disch := omega) only [o_b1_s, o_b2_s, o_b3_s, o_b4_s, o_s1_s, o_s2_l, o_s2_r, o_g_t, i_add, i_mul, i_sub, i_and, i_or, i_xor, i_sd, i_shl, Nat.one_mul, i_eq, i_lt, i_le, i_n0, i_0le, i_e0, i_0lt, i_le0, i_cl, bz_0, wp_s, lq_l, lq_r, if_true, if_false, ite_not, true_and, and_true]
      rw [← dwn_p (show 0 < n by omega)]
      refine wp_s1 (wp_lpd (fun d s_1 => ∃ K, s_1 = (dwn d, K) ∧ (∀ c, ¬ c = 93 → K c = I c) ∧ (∀ k, ¬ k = m → K 93 k = J 93 k) ∧ gwv (FV I s) (J 93) n m d (K 93 m)) 0 n (Nat.zero_le _) (by omega) ⟨_, rfl, fun c hc => by rw [up_ne hc]; exact hJ c hc, fun k hk => by rw [up_eq, up_ne hk], by rw [up_eq, up_eq]; exact Or.inl ⟨rfl, fun e h1 h2 => absurd h2 (by omega)⟩⟩ ?_ ?_)
      · rintro d _ - hd ⟨K, rfl, hK, hk, hg⟩
        have pd := p2_lt (show d < 8 by omega)
        have ho : m ||| 2 ^ d < 256 := bit_or_lt (by omega) pd
        rw [dwn_s]
        simp (disch := omega) only [if_pos, if_neg, o_b1_s, o_b2_s, o_b3_s, o_b4_s, o_s1_s, o_s2_l, o_s2_r, o_g_t, i_add, i_mul, i_sub, i_and, i_or, i_xor, i_sd, i_shl, Nat.one_mul, i_eq, i_lt, i_le, i_n0, i_0le, i_e0, i_0lt, i_le0, i_cl, bz_0, wp_s, lq_l, lq_r, if_true, if_false, ite_not, true_and, and_true, m_320_b66, r_75_33, g_93, s_192, s_252, hF K hK, i_m1]
        split
        · rename_i c1
          simp (disch := omega) only [o_b1_s, o_b2_s, o_b3_s, o_b4_s, o_s1_s, o_s2_l, o_s2_r, o_g_t, i_add, i_mul, i_sub, i_and, i_or, i_xor, i_sd, i_shl, Nat.one_mul, i_eq, i_lt, i_le, i_n0, i_0le, i_e0, i_0lt, i_le0, i_cl, bz_0, wp_s, lq_l, lq_r, if_true, if_false, ite_not, true_and, and_true]
          exact ⟨_, rfl, hK, hk, gwv_n (fun h9 => by rw [h9.1] at c1; cases c1) hg⟩
        · rename_i c1
          have c1f := not_tb c1
          have hgt := or_gt m (by omega) d (by omega) c1f
          split
          · rename_i c2
            rw [hk (m ||| 2 ^ d) (by omega)]
            split
            · rename_i c3
              simp (disch := omega) only [o_b1_s, o_b2_s, o_b3_s, o_b4_s, o_s1_s, o_s2_l, o_s2_r, o_g_t, i_add, i_mul, i_sub, i_and, i_or, i_xor, i_sd, i_shl, Nat.one_mul, i_eq, i_lt, i_le, i_n0, i_0le, i_e0, i_0lt, i_le0, i_cl, bz_0, wp_s, lq_l, lq_r, if_true, if_false, ite_not, true_and, and_true]
              refine ⟨_, rfl, fun c hc => by rw [up_ne hc]; exact hK c hc, fun k hk2 => by rw [up_eq, up_ne hk2]; exact hk k hk2, ?_⟩
              rw [up_eq, up_eq]
              exact gwv_y (w := 0) hd ⟨c1f, c2, c3⟩
            · rename_i c3
              simp (disch := omega) only [o_b1_s, o_b2_s, o_b3_s, o_b4_s, o_s1_s, o_s2_l, o_s2_r, o_g_t, i_add, i_mul, i_sub, i_and, i_or, i_xor, i_sd, i_shl, Nat.one_mul, i_eq, i_lt, i_le, i_n0, i_0le, i_e0, i_0lt, i_le0, i_cl, bz_0, wp_s, lq_l, lq_r, if_true, if_false, ite_not, true_and, and_true]
              exact ⟨_, rfl, hK, hk, gwv_n (fun h9 => c3 h9.2.2) hg⟩
          · rename_i c2
            simp (disch := omega) only [o_b1_s, o_b2_s, o_b3_s, o_b4_s, o_s1_s, o_s2_l, o_s2_r, o_g_t, i_add, i_mul, i_sub, i_and, i_or, i_xor, i_sd, i_shl, Nat.one_mul, i_eq, i_lt, i_le, i_n0, i_0le, i_e0, i_0lt, i_le0, i_cl, bz_0, wp_s, lq_l, lq_r, if_true, if_false, ite_not, true_and, and_true]
            exact ⟨_, rfl, hK, hk, gwv_n (fun h9 => c2 h9.2.1) hg⟩
      · rintro _ ⟨K, rfl, hK, hk, hg⟩
        rw [dwn_0]
        simp (disch := omega) only [if_pos, if_neg, o_b1_s, o_b2_s, o_b3_s, o_b4_s, o_s1_s, o_s2_l, o_s2_r, o_g_t, i_add, i_mul, i_sub, i_and, i_or, i_xor, i_sd, i_shl, Nat.one_mul, i_eq, i_lt, i_le, i_n0, i_0le, i_e0, i_0lt, i_le0, i_cl, bz_0, wp_s, lq_l, lq_r, if_true, if_false, ite_not, true_and, and_true, m_320_b66, m_320_x66_124, i_m1, if_pos (show (-1 : Int32) < 0 by decide)]
        refine ⟨K, rfl, hK, fun q hq hq2 hf => ?_⟩
        by_cases e : q = m
        · subst e
          exact gwv_cong (fun e he h1 h2 => hc K hk q hm e he h1 (Nat.le_refl _)) hg
        · rw [hk q e]
          exact gwv_cong (fun e he h1 h2 => hc K hk q hq2 e he h1 (by omega)) (hP q (by omega) hq2 hf)
    · rename_i cf
      simp (disch := omega) only [o_b1_s, o_b2_s, o_b3_s, o_b4_s, o_s1_s, o_s2_l, o_s2_r, o_g_t, i_add, i_mul, i_sub, i_and, i_or, i_xor, i_sd, i_shl, Nat.one_mul, i_eq, i_lt, i_le, i_n0, i_0le, i_e0, i_0lt, i_le0, i_cl, bz_0, wp_s, lq_l, lq_r, if_true, if_false, ite_not, true_and, and_true, i_m1]
      refine ⟨_, rfl, fun c hc => by rw [up_ne hc]; exact hJ c hc, fun q hq hq2 hf => ?_⟩
      by_cases e : q = m
      · subst e
        exact absurd hf cf
      · have hk : ∀ k, ¬ k = m → va_up J 93 (va_up (J 93) m (nI 0)) 93 k = J 93 k := fun k hk => by rw [up_eq, up_ne hk]
        rw [hk q e]
        exact gwv_cong (fun e he h1 h2 => hc _ hk q hq2 e he h1 (by omega)) (hP q (by omega) hq2 hf)
  · rintro _ ⟨J, rfl, hJ, hP⟩
    simp (disch := omega) only [if_pos, if_neg, o_b1_s, o_b2_s, o_b3_s, o_b4_s, o_s1_s, o_s2_l, o_s2_r, o_g_t, i_add, i_mul, i_sub, i_and, i_or, i_xor, i_sd, i_shl, Nat.one_mul, i_eq, i_lt, i_le, i_n0, i_0le, i_e0, i_0lt, i_le0, i_cl, bz_0, wp_s, lq_l, lq_r, if_true, if_false, ite_not, true_and, and_true, m_320_b33, m_320_x33_130, r_75_33, g_93, if_pos (dwn_lt (show set < 2147483648 by omega))]
    exact ⟨J 93, rfl, hJ, hP⟩
theorem game_one {V T U : Nat → Int32} {n set : Nat} (hn : n ≤ 8) (h1 : ∀ k, k < 2 ^ n → gwv V T n k 0 (T k)) (h2 : ∀ k, set ≤ k → k < 2 ^ n → rk V k = pc k → gwv V U n k 0 (U k)) : ∀ d k, 2 ^ n - k ≤ d → set ≤ k → k < 2 ^ n → rk V k = pc k → T k = U k
  | 0, k, h, _, h4, _ => by omega
  | d + 1, k, h, h3, h4, h5 => by
    have h8 := p2_le hn
    have a := h1 k h4
    have b := h2 k h3 h4 h5
    refine gwv_one (gwv_cong (fun e he e1 e2 => ?_) a) b
    have h6 := or_gt k (by omega) e (by omega) e1
    have h7 : k ||| 2 ^ e < 2 ^ n := Nat.or_lt_two_pow (by omega) (Nat.pow_lt_pow_right (by decide) he)
    exact game_one hn h1 h2 d (k ||| 2 ^ e) (by omega) (by omega) h7 e2
theorem op_game {I : ai_I} {t L : Nat} (h : ST I) (s x : Int32) : OPc I (m_171 1 s x I (Rc t) (Gc L)) (fun I1 => m_320 75 s x I1 (Rc t) (Gc L)) := by
  rcases x_cases s (n := 3) (by decide) with ⟨k, hk, rfl⟩ | hs
  · obtain ⟨n, r, hW, hC, hI, hIr⟩ := h.1 k (by omega)
    have hn := hW.2.1
    have h8 := p2_le hn
    have hv := vc_s (s := k) (by omega)
    have ec : m_171 1 (nI k) x I (Rc t) (Gc L) = (if nI 0 ≤ x ∧ x ≤ nI (2 ^ n - 1) then o_b1 (m_123 (6 + 4 * k) x I (Rc t) (Gc L)) (fun r_23 => if r_23 = 0 then some (-1, I) else o_b1 (m_86 (6 + 4 * k) 73 I (Rc t) (Gc L)) (fun I_36 => o_g (o_in (Gc L) 13 73 x) (some (I_36 73 x.toNatClampNeg, I_36)))) else some (-1, I)) := by
      unfold m_171
      rw [r_1_0, k_2, o_g_t, c_96 (by omega), o_b1_s, if_neg (by omega), v_kd hv, o_g_t, c_121' hn hC.1, o_b1_s, q_bz, r_1_13]
    rw [ec]
    have er : ∀ J : ai_I, J 76 = I 76 → m_320 75 (nI k) x J (Rc t) (Gc L) = (if nI 0 ≤ x ∧ x ≤ nI (2 ^ n - 1) then o_b1 (m_252 75 (nI k) x J (Rc t) (Gc L)) (fun r_19 => if r_19 = 0 then some (-1, J) else o_s1 (lp (fun q => m_320_b33 75 (nI k) x (Rc t) (Gc L) q.1 q.2) o_N (nI (2 ^ n - 1), J)) (fun q => m_320_x33_130 75 x (Rc t) (Gc L) q)) else some (-1, J)) := fun J hJ => by
      unfold m_320
      rw [s_200, o_b1_s, q_bz, if_pos (nI_in03 hk), s_201 (by omega) hn (by rw [hJ]; exact hI), o_b1_s, q_bz, s_197 (by omega) hn (by rw [hJ]; exact hI), o_b1_s]
    rcases x_cases x (p2_big hn) with ⟨j, hj, rfl⟩ | hx
    · obtain ⟨hin, hj2, hj3⟩ := in_p hn hj
      rw [if_pos hin, c_123 hv hC hj2, o_b1_s, q_bz]
      by_cases hf : rk (FV I k) j = pc j
      · obtain ⟨J, j1, j2, j3⟩ := c_86 (t := t) (L := L) hv hW hC
        have hJ := j2 76 (by decide)
        have hFJ : FV J k = FV I k := by
          unfold FV
          rw [hJ]
        obtain ⟨q, q1, T, q2, q3, q4⟩ := s_320 (I := J) (t := t) (L := L) (s := k) (n := n) (r := r) (by omega) (by rw [hFJ]; exact hW) (by rw [hJ]; exact hI) hj3
        rw [if_pos hf, j1, o_b1_s, g_73 (by omega), o_g_t, i_cl (by omega)]
        rw [hFJ] at q4
        have e := game_one hn j3 q4 (2 ^ n) j (by omega) (Nat.le_refl _) hj3 hf
        refine ⟨_, J, q.2, rfl, ?_, ?_, j2 1999 (by decide)⟩
        · show m_320 75 (nI k) (nI j) J (Rc t) (Gc L) = _
          rw [er J hJ, if_pos hin, s_252 (by omega) hj2, o_b1_s, q_bz, hFJ, if_pos hf, q1, e, ← q2]
        · exact ⟨fun c hc => by rw [q3 c (by omega), j2 c (by omega)], fun i _ => by rw [q3 76 (by decide), hJ], by rw [q3 77 (by decide), j2 77 (by decide)], by rw [q3 75 (by decide), j2 75 (by decide)], by rw [q3 75 (by decide), j2 75 (by decide)], by rw [q3 1999 (by decide), j2 1999 (by decide)]⟩
      · rw [if_neg hf]
        refine ⟨_, I, I, rfl, ?_, SAME_rf, rfl⟩
        show m_320 75 (nI k) (nI j) I (Rc t) (Gc L) = _
        rw [er I rfl, if_pos hin, s_252 (by omega) hj2, o_b1_s, q_bz, if_neg hf]
    · rw [if_neg hx]
      refine ⟨_, I, I, rfl, ?_, SAME_rf, rfl⟩
      show m_320 75 (nI k) x I (Rc t) (Gc L) = _
      rw [er I rfl, if_neg hx]
  · unfold m_171
    rw [r_1_0, k_2, o_g_t, c_96o hs, o_b1_s, if_pos rfl]
    refine ⟨_, I, I, rfl, ?_, SAME_rf, rfl⟩
    show m_320 75 s x I (Rc t) (Gc L) = _
    unfold m_320
    rw [s_200, o_b1_s, q_bz, if_neg hs]
