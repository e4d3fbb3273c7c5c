/-! Out of whole's part 55.climb, by wip/p46/extract.py. -/
/-- the class's table of sums -/
def TB (J : ai_I) (V S : Nat → Int32) : Prop := ∀ x, x < 256 → J 58 x = if V x ≠ NO then S x else NO
theorem c_107 {I : ai_I} {t v n r a : Nat} {L : ai_G} {V S : Nat → Int32} (hv : v ∈ VC) (hW : WF n r V) (h : CS I v n r V) (hT : TB I V S) (hS : ∀ x, x ∈ BL V → ¬ S x ≤ NO) (ha : a ∈ BL V) : wp (m_75 57 v (nI a) I (Rc t) (Gc L)) (fun x => ∃ b, x = nI b ∧ b < 256 ∧ ((b = a ∧ NX V S a none) ∨ (¬ b = a ∧ NX V S a (some b)))) := by
  have hn := hW.2.1
  have h8 := p2_le hn
  have ha2 := BL_mem.1 ha
  obtain ⟨ha3, ha4, -⟩ := hW.2.2.2.2.1 a ha2.1 ha2.2
  have NV_lt : ∀ D b, NV V S a D b → b < 256 := fun D b hN => by
    rcases hN with ⟨rfl, -⟩ | ⟨hN, -⟩
    · exact ha2.1
    · exact (BL_mem.1 hN).1
  unfold m_75
  refine wp_s1 (wp_lp (fun i s => ∃ b, s = (nI b, nI i) ∧ NV V S a (fun x => ∃ p q, p < i ∧ q < n ∧ a.testBit p = true ∧ a.testBit q = false ∧ x = a ^^^ (2 ^ p ||| 2 ^ q)) b) 0 n (Nat.zero_le _) (by omega) ⟨a, rfl, Or.inl ⟨rfl, fun c hc => by obtain ⟨p, q, hp, -⟩ := hc; exact absurd hp (Nat.not_lt_zero _)⟩⟩ ?_ ?_)
  · rintro i _ hi ⟨b, rfl, hN⟩
    have hb := NV_lt _ _ hN
    simp (disch := omega) only [if_pos, if_neg, o_b1_s, o_b2_s, o_b3_s, o_b4_s, o_s1_s, o_s2_l, o_s2_r, o_g_t, i_add, i_mul, i_sub, i_and, i_or, i_xor, i_sd, i_shl, Nat.one_mul, i_eq, i_lt, i_le, i_n0, i_0le, i_e0, i_0lt, i_le0, i_cl, bz_0, wp_s, lq_l, lq_r, if_true, if_false, ite_not, true_and, and_true, m_75_b5, v_kd hv, h.1]
    refine wp_s1 (wp_lp (fun j s => ∃ b, s = (nI b, nI j) ∧ NV V S a (fun x => (∃ p q, p < i ∧ q < n ∧ a.testBit p = true ∧ a.testBit q = false ∧ x = a ^^^ (2 ^ p ||| 2 ^ q)) ∨ ∃ q, q < j ∧ a.testBit i = true ∧ a.testBit q = false ∧ x = a ^^^ (2 ^ i ||| 2 ^ q)) b) 0 n (Nat.zero_le _) (by omega) ⟨b, rfl, NV_sub hN (fun x hx => by
      rcases hx with hx | ⟨q, hq, -⟩
      · exact hx
      · exact absurd hq (Nat.not_lt_zero _))⟩ ?_ ?_)
    · rintro j _ hj ⟨b, rfl, hN⟩
      have hb := NV_lt _ _ hN
      have pi := p2_lt (show i < 8 by omega)
      have pj := p2_lt (show j < 8 by omega)
      have hx : a ^^^ (2 ^ i ||| 2 ^ j) < 256 := bit_xor_lt ha2.1 (bit_or_lt pi pj)
      simp (disch := omega) only [if_pos, if_neg, o_b1_s, o_b2_s, o_b3_s, o_b4_s, o_s1_s, o_s2_l, o_s2_r, o_g_t, i_add, i_mul, i_sub, i_and, i_or, i_xor, i_sd, i_shl, Nat.one_mul, i_eq, i_lt, i_le, i_n0, i_0le, i_e0, i_0lt, i_le0, i_cl, bz_0, wp_s, lq_l, lq_r, if_true, if_false, ite_not, true_and, and_true, m_75_b17, h.1, c_183]
      split
      · rename_i c1
        split
        · rename_i c2
          simp (disch := omega) only [o_b1_s, o_b2_s, o_b3_s, o_b4_s, o_s1_s, o_s2_l, o_s2_r, o_g_t, i_add, i_mul, i_sub, i_and, i_or, i_xor, i_sd, i_shl, Nat.one_mul, i_eq, i_lt, i_le, i_n0, i_0le, i_e0, i_0lt, i_le0, i_cl, bz_0, wp_s, lq_l, lq_r, if_true, if_false, ite_not, true_and, and_true]
          refine ⟨b, rfl, NV_sub hN (fun x hx => ?_)⟩
          rcases hx with hx | ⟨q, hq, e1, e2, e3⟩
          · exact Or.inl hx
          · by_cases e : q = j
            · rw [e, c2] at e2
              cases e2
            · exact Or.inr ⟨q, by omega, e1, e2, e3⟩
        · rename_i c2
          have c2f := not_tb c2
          have hstep := NV_step (T := I 58) hT hS ha hx (ij_nb (show i < 8 by omega) c1 c2f) hN
          have hfin : ∀ z, NV V S a (fun x => ((∃ p q, p < i ∧ q < n ∧ a.testBit p = true ∧ a.testBit q = false ∧ x = a ^^^ (2 ^ p ||| 2 ^ q)) ∨ ∃ q, q < j ∧ a.testBit i = true ∧ a.testBit q = false ∧ x = a ^^^ (2 ^ i ||| 2 ^ q)) ∨ x = a ^^^ (2 ^ i ||| 2 ^ j)) z → NV V S a (fun x => (∃ p q, p < i ∧ q < n ∧ a.testBit p = true ∧ a.testBit q = false ∧ x = a ^^^ (2 ^ p ||| 2 ^ q)) ∨ ∃ q, q < j + 1 ∧ a.testBit i = true ∧ a.testBit q = false ∧ x = a ^^^ (2 ^ i ||| 2 ^ q)) z := fun z hz => NV_sub hz (fun x hx => by
            rcases hx with hx | ⟨q, hq, e1, e2, e3⟩
            · exact Or.inl (Or.inl hx)
            · by_cases e : q = j
              · rw [e] at e3
                exact Or.inr e3
              · exact Or.inl (Or.inr ⟨q, by omega, e1, e2, e3⟩))
          generalize a ^^^ (2 ^ i ||| 2 ^ j) = c at hx hstep hfin ⊢
          have key : wp (if I 58 b < I 58 c then (some (Sum.inl (nI c, nI (j + 1))) : Option ((Int32 × Int32) ⊕ Int32)) else if I 58 c = I 58 b ∧ ¬ b = a ∧ ¬ b ≤ c then some (Sum.inl (nI c, nI (j + 1))) else some (Sum.inl (nI b, nI (j + 1)))) (lq (fun s => ∃ b, s = (nI b, nI (j + 1)) ∧ NV V S a (fun x => (∃ p q, p < i ∧ q < n ∧ a.testBit p = true ∧ a.testBit q = false ∧ x = a ^^^ (2 ^ p ||| 2 ^ q)) ∨ ∃ q, q < j + 1 ∧ a.testBit i = true ∧ a.testBit q = false ∧ x = a ^^^ (2 ^ i ||| 2 ^ q)) b) (fun a_1 => wp (m_75_x17_121 (nI i) a_1) (lq (fun s => ∃ b, s = (nI b, nI (i + 1)) ∧ NV V S a (fun x => ∃ p q, p < i + 1 ∧ q < n ∧ a.testBit p = true ∧ a.testBit q = false ∧ x = a ^^^ (2 ^ p ||| 2 ^ q)) b) (fun a_2 => wp (m_75_x5_127 a_2) (fun x => ∃ b, x = nI b ∧ b < 256 ∧ ((b = a ∧ NX V S a none) ∨ (¬ b = a ∧ NX V S a (some b)))))))) := by
            by_cases d1 : I 58 b < I 58 c
            · rw [if_pos d1] at hstep ⊢
              exact ⟨_, rfl, _, rfl, hfin _ hstep⟩
            · rw [if_neg d1] at hstep ⊢
              by_cases d2 : I 58 c = I 58 b ∧ ¬ b = a ∧ ¬ b ≤ c
              · rw [if_pos d2] at hstep ⊢
                exact ⟨_, rfl, _, rfl, hfin _ hstep⟩
              · rw [if_neg d2] at hstep ⊢
                exact ⟨_, rfl, _, rfl, hfin _ hstep⟩
          refine Eq.mp (congrArg (fun z => wp z _) ?_) key
          unfold m_75_j82 m_75_j83
          rw [r_57_0, g_58 hx, g_58 hb, o_g_t, o_g_t, o_g_t, o_g_t, i_cl (by omega), i_cl (by omega)]
          simp only [o_b1_s, i_add]
          rw [q_00, q_10]
          by_cases d1 : I 58 b < I 58 c
          · have d0 : ¬ I 58 c = I 58 b := fun h9 => by rw [h9] at d1; exact Int32.lt_irrefl d1
            rw [if_pos d1, if_neg d0, if_pos d1]
          · rw [if_neg d1]
            by_cases d0 : I 58 c = I 58 b
            · rw [if_pos d0]
              by_cases d2 : b = a
              · rw [if_neg (fun h9 => h9.2.1 d2), if_pos (by rw [d2])]
                rw [if_neg d1]
              · rw [if_neg d2, o_g_t, o_g_t, if_neg d1, q_le (by omega) (by omega)]
                by_cases d3 : b ≤ c
                · rw [if_neg (fun h9 => h9.2.2 d3), if_pos d3]
                · rw [if_pos ⟨d0, d2, d3⟩, if_neg d3]
            · rw [if_neg (fun h9 => d0 h9.1), if_neg d0, if_neg d1]
      · rename_i c1
        simp (disch := omega) only [o_b1_s, o_b2_s, o_b3_s, o_b4_s, o_s1_s, o_s2_l, o_s2_r, o_g_t, i_add, i_mul, i_sub, i_and, i_or, i_xor, i_sd, i_shl, Nat.one_mul, i_eq, i_lt, i_le, i_n0, i_0le, i_e0, i_0lt, i_le0, i_cl, bz_0, wp_s, lq_l, lq_r, if_true, if_false, ite_not, true_and, and_true]
        refine ⟨b, rfl, NV_sub hN (fun x hx => ?_)⟩
        rcases hx with hx | ⟨q, hq, e1, e2, e3⟩
        · exact Or.inl hx
        · exact absurd e1 c1
    · rintro _ ⟨b, rfl, hN⟩
      simp (disch := omega) only [if_pos, if_neg, o_b1_s, o_b2_s, o_b3_s, o_b4_s, o_s1_s, o_s2_l, o_s2_r, o_g_t, i_add, i_mul, i_sub, i_and, i_or, i_xor, i_sd, i_shl, Nat.one_mul, i_eq, i_lt, i_le, i_n0, i_0le, i_e0, i_0lt, i_le0, i_cl, bz_0, wp_s, lq_l, lq_r, if_true, if_false, ite_not, true_and, and_true, m_75_b17, h.1, m_75_x17_121]
      refine ⟨b, rfl, NV_sub hN (fun x hx => ?_)⟩
      obtain ⟨p, q, hp, hq, e1, e2, e3⟩ := hx
      by_cases e : p = i
      · rw [e] at e1 e3
        exact Or.inr ⟨q, hq, e1, e2, e3⟩
      · exact Or.inl ⟨p, q, by omega, hq, e1, e2, e3⟩
  · rintro _ ⟨b, rfl, hN⟩
    simp (disch := omega) only [if_pos, if_neg, o_b1_s, o_b2_s, o_b3_s, o_b4_s, o_s1_s, o_s2_l, o_s2_r, o_g_t, i_add, i_mul, i_sub, i_and, i_or, i_xor, i_sd, i_shl, Nat.one_mul, i_eq, i_lt, i_le, i_n0, i_0le, i_e0, i_0lt, i_le0, i_cl, bz_0, wp_s, lq_l, lq_r, if_true, if_false, ite_not, true_and, and_true, m_75_b5, v_kd hv, h.1, m_75_x5_127]
    refine ⟨b, rfl, NV_lt _ _ hN, NV_NX hN (fun c hc hnb => ?_)⟩
    have hc2 := BL_mem.1 hc
    obtain ⟨hc3, hc4, -⟩ := hW.2.2.2.2.1 c hc2.1 hc2.2
    obtain ⟨p, q, h1, h2, h3, h4, h5⟩ := nb_ij hn ha3 hc3 (by rw [ha4, hc4]) hnb
    exact ⟨p, q, h1, h2, h3, h4, h5⟩
theorem c_106 {I : ai_I} {t v n r a : Nat} {L : ai_G} {V S : Nat → Int32} (hv : v ∈ VC) (hW : WF n r V) (h : CS I v n r V) (hT : TB I V S) (hS : ∀ x, x ∈ BL V → ¬ S x ≤ NO) (ha : a ∈ BL V) : wp (m_74 57 v (nI a) I (Rc t) (Gc L)) (fun J => ot I J 57 ∧ (∀ j, ¬ j = 2 → ¬ j = 3 → J 57 j = I 57 j) ∧ ∃ k b, grd V S k a b ∧ b ∈ BL V ∧ J 57 2 = nI b ∧ J 57 3 = nI k ∧ k < 256) := by
  have hl := BL_len hW
  have hvv := vc_51 v hv
  unfold m_74
  simp (disch := omega) only [o_b1_s, o_b2_s, o_b3_s, o_b4_s, o_s1_s, o_s2_l, o_s2_r, o_g_t, i_add, i_mul, i_sub, i_and, i_or, i_xor, i_sd, i_shl, Nat.one_mul, i_eq, i_lt, i_le, i_n0, i_0le, i_e0, i_0lt, i_le0, i_cl, bz_0, wp_s, lq_l, lq_r, if_true, if_false, ite_not, true_and, and_true]
  refine wp_s2 (wp_lp (fun i s => ∃ J b, s = (nI i, J) ∧ ot I J 57 ∧ (∀ j, ¬ j = 2 → ¬ j = 3 → J 57 j = I 57 j) ∧ b ∈ BL V ∧ J 57 2 = nI b ∧ J 57 3 = nI i ∧ i + gtc V S b + 1 ≤ (BL V).length ∧ ∀ k c, grd V S k b c → grd V S (i + k) a c) 0 (BL V).length (Nat.zero_le _) (by omega) ⟨_, a, rfl, fun c hc => by rw [up_ne hc, up_ne hc], fun j h1 h2 => by rw [up_eq, up_ne h2, up_eq, up_ne h1], ha, by rw [up_eq, up_ne (by decide), up_eq, up_eq], by rw [up_eq, up_eq], by have := gtc_le (S := S) ha; omega, fun k c hk => by rw [Nat.zero_add]; exact hk⟩ ?_ ?_)
  · rintro i _ hi ⟨J, b, rfl, hJ, h57, hb, j2, j3, hg, hk⟩
    have hC : CS J v n r V := CS_cong (fun _ _ => rfl) (hJ _ (by omega)) (hJ _ (by omega)) (hJ _ (by omega)) (hJ _ (by omega)) h
    have hTJ : TB J V S := fun x hx => by rw [hJ 58 (by decide)]; exact hT x hx
    have hb2 := (BL_mem.1 hb).1
    simp (disch := omega) only [if_pos, if_neg, o_b1_s, o_b2_s, o_b3_s, o_b4_s, o_s1_s, o_s2_l, o_s2_r, o_g_t, i_add, i_mul, i_sub, i_and, i_or, i_xor, i_sd, i_shl, Nat.one_mul, i_eq, i_lt, i_le, i_n0, i_0le, i_e0, i_0lt, i_le0, i_cl, bz_0, wp_s, lq_l, lq_r, if_true, if_false, ite_not, true_and, and_true, m_74_b12, v_kd hv, hC.2.2.1, j2]
    refine wp_b1 (wp_mono (c_107 (t := t) (L := L) hv hW hC hTJ hS hb) ?_)
    rintro _ ⟨c, rfl, hc, ⟨rfl, hN⟩ | ⟨hcb, hN⟩⟩
    · simp (disch := omega) only [if_pos, if_neg, o_b1_s, o_b2_s, o_b3_s, o_b4_s, o_s1_s, o_s2_l, o_s2_r, o_g_t, i_add, i_mul, i_sub, i_and, i_or, i_xor, i_sd, i_shl, Nat.one_mul, i_eq, i_lt, i_le, i_n0, i_0le, i_e0, i_0lt, i_le0, i_cl, bz_0, wp_s, lq_l, lq_r, if_true, if_false, ite_not, true_and, and_true, m_74_x12_40]
      exact ⟨hJ, h57, i, c, hk 0 c ⟨rfl, hN⟩, hb, j2, j3, by omega⟩
    · simp (disch := omega) only [if_pos, if_neg, o_b1_s, o_b2_s, o_b3_s, o_b4_s, o_s1_s, o_s2_l, o_s2_r, o_g_t, i_add, i_mul, i_sub, i_and, i_or, i_xor, i_sd, i_shl, Nat.one_mul, i_eq, i_lt, i_le, i_n0, i_0le, i_e0, i_0lt, i_le0, i_cl, bz_0, wp_s, lq_l, lq_r, if_true, if_false, ite_not, true_and, and_true, up_eq, up_ne, j3]
      have := gtc_lt hN
      refine ⟨_, c, rfl, fun q hq => by rw [up_ne hq, up_ne hq]; exact hJ q hq, fun j h1 h2 => by rw [up_eq, up_ne h2, up_ne h1]; exact h57 j h1 h2, hN.1, by rw [up_eq, up_ne (by decide), up_eq], by rw [up_eq, up_eq], by omega, fun k d hd => ?_⟩
      have h9 := hk (k + 1) d ⟨c, hN, hd⟩
      rw [show i + 1 + k = i + (k + 1) by omega]
      exact h9
  · rintro _ ⟨J, b, rfl, hJ, h57, hb, j2, j3, hg, hk⟩
    omega
theorem c_105 {I : ai_I} {t b : Nat} {L : ai_G} (hb : b < 256) : m_73 57 (nI b) I (Rc t) (Gc L) = some (bz (I 58 b = I 57 1)) := by
  unfold m_73
  rw [r_57_0, g_58 hb, o_g_t, i_cl (by omega)]
  by_cases h : I 58 b = I 57 1
  · rw [if_pos h, bz_t h]
  · rw [if_neg h, bz_f h]
def mo (o : Option Nat) : Int32 := match o with
  | none => -1
  | some b => nI b
