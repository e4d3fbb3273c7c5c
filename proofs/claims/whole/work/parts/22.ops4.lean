/-! Quotients; sums over all sets of powers. -/
theorem c_96e {t L : Nat} (x : Int32) : ∃ a, m_96 2 x (Rc t) (Gc L) = some a := by
  rcases x_cases x (n := 3) (by decide) with ⟨k, hk, rfl⟩ | hx
  · exact ⟨_, c_96 (by omega)⟩
  · exact ⟨_, c_96o hx⟩
def badq (V W : Nat → Int32) (n x : Nat) : Bool := decide (clo W n x = x) && !decide (clo V n x = x)
theorem op_quotient {I : ai_I} {t L : Nat} (h : ST I) (s u : Int32) : OPr (m_163 1 s u I (Rc t) (Gc L)) (m_298 75 s u I (Rc t) (Gc L)) := by
  unfold m_163 m_298
  rw [r_1_0, k_2, o_g_t, s_200, s_200, o_b1_s, q_bz]
  rcases x_cases s (n := 3) (by decide) with ⟨k, hk, rfl⟩ | hs
  · rw [c_96 (by omega), o_b1_s, if_pos (nI_in03 hk)]
    rcases x_cases u (n := 3) (by decide) with ⟨l, hl, rfl⟩ | hu
    · rw [c_96 (by omega), o_b1_s, o_b1_s, q_bz, if_pos (nI_in03 hl)]
      obtain ⟨n, r, hW, hC, hI, -⟩ := h.1 k (by omega)
      obtain ⟨n2, r2, hW2, hC2, hI2, -⟩ := h.1 l (by omega)
      have hn := hW.2.1
      have hn2 := hW2.2.1
      have h8 := p2_le hn
      have h0 := Nat.two_pow_pos n
      have hv := vc_s (s := k) (by omega)
      have hv2 := vc_s (s := l) (by omega)
      unfold m_185
      rw [if_neg (by omega), if_neg (by omega), v_kd hv, v_kd hv2, o_g_t, o_g_t, hC.1, hC2.1, q_eq (by omega) (by omega), s_195 (by omega), s_195 (by omega), o_b1_s, o_b1_s, hI, hI2, q_eq (by omega) (by omega)]
      by_cases hnn : n = n2
      · subst hnn
        rw [if_pos rfl, if_pos rfl, o_b1_s, q_10]
        have e1 : m_72 (6 + 4 * k) (6 + 4 * l) I (Rc t) (Gc L) = some (if (List.range (2 ^ n)).all (fun e => !badq (FV I k) (FV I l) n e) = true then nI 1 else nI 0) := by
          unfold m_72
          rw [lp_all (badq (FV I k) (FV I l) n) (.inl ()) (.inr ()) (2 ^ n) (by omega) ?_ ?_]
          · by_cases hc : (List.range (2 ^ n)).all (fun e => !badq (FV I k) (FV I l) n e) = true
            · rw [if_pos hc, if_pos hc, o_s2_r]
              rfl
            · rw [if_neg hc, if_neg hc, o_s2_l]
              rfl
          · intro x hx
            have c1 := clo_lt (V := FV I k) (set := x) hn (by omega)
            have c2 := clo_lt (V := FV I l) (set := x) hn (by omega)
            unfold m_72_b2 badq
            rw [v_kd hv2, o_g_t, c_118 hn hC2.1, o_b1_s, q_leF (by omega) hx, c_70 hv2 hW2 hC2 (by omega), o_b1_s, q_eq (by omega) (by omega), c_70 hv hW hC (by omega), o_b1_s, q_eq (by omega) (by omega), o_b1_s, i_add]
            by_cases d1 : clo (FV I l) n x = x
            · by_cases d2 : clo (FV I k) n x = x
              · rw [if_pos d1, if_pos d2, if_neg (by simp [d1, d2])]
              · rw [if_pos d1, if_neg d2, if_pos (by simp [d1, d2])]
            · rw [if_neg d1, if_neg (by simp [d1])]
          · unfold m_72_b2
            rw [v_kd hv2, o_g_t, c_118 hn hC2.1, o_b1_s, q_leT (by omega) (Nat.le_refl _)]
        rw [e1, o_b1_s, lp_all (badq (FV I k) (FV I l) n) (.inl ()) (.inr ()) (2 ^ n) (by omega) ?_ ?_]
        · by_cases hc : (List.range (2 ^ n)).all (fun e => !badq (FV I k) (FV I l) n e) = true
          · rw [if_pos hc, if_pos hc, o_s2_r]
            exact ⟨nI 1, rfl, rfl⟩
          · rw [if_neg hc, if_neg hc, o_s2_l]
            exact ⟨nI 0, rfl, rfl⟩
        · intro x hx
          unfold m_298_b31 badq
          rw [s_197 (by omega) hn hI, o_b1_s, q_ltF (by omega) (by omega), s_253 (by omega) hn hI2 (by omega), s_253 (by omega) hn hI (by omega), o_b1_s, q_bz, o_b1_s, q_bz, o_b1_s, i_add]
          by_cases d1 : clo (FV I l) n x = x
          · by_cases d2 : clo (FV I k) n x = x
            · rw [if_pos d1, if_pos d2, if_neg (by simp [d1, d2])]
            · rw [if_pos d1, if_neg d2, if_pos (by simp [d1, d2])]
          · rw [if_neg d1, if_neg (by simp [d1])]
        · unfold m_298_b31
          rw [s_197 (by omega) hn hI, o_b1_s, q_ltT (by omega) (by omega)]
      · rw [if_neg hnn, if_neg hnn, o_b1_s, q_00]
        exact ⟨_, rfl, rfl⟩
    · rw [c_96o hu, o_b1_s, o_b1_s, q_bz, if_neg hu]
      unfold m_185
      rw [if_neg (by omega), if_pos rfl, o_b1_s, q_00]
      exact ⟨_, rfl, rfl⟩
  · obtain ⟨a, ha⟩ := c_96e (t := t) (L := L) u
    rw [c_96o hs, o_b1_s, ha, o_b1_s, if_neg hs]
    unfold m_185
    rw [if_pos rfl, o_b1_s, q_00]
    exact ⟨_, rfl, rfl⟩
theorem and_bit_le (a b i : Nat) : (a &&& b) / 2 ^ i % 2 ≤ a / 2 ^ i % 2 := by
  have h := Nat.testBit_and a b i
  rw [Nat.testBit_eq_decide_div_mod_eq, Nat.testBit_eq_decide_div_mod_eq] at h
  by_cases h1 : a / 2 ^ i % 2 = 1
  · omega
  · rw [decide_eq_false h1, Bool.false_and] at h
    have h2 := of_decide_eq_false h
    omega
theorem pc_and_le (a b : Nat) : pc (a &&& b) ≤ pc a := by
  have h0 : (a &&& b) % 2 ≤ a % 2 := by
    have := and_bit_le a b 0
    simpa using this
  have h1 : (a &&& b) / 2 % 2 ≤ a / 2 % 2 := and_bit_le a b 1
  have h2 : (a &&& b) / 4 % 2 ≤ a / 4 % 2 := and_bit_le a b 2
  have h3 : (a &&& b) / 8 % 2 ≤ a / 8 % 2 := and_bit_le a b 3
  have h4 : (a &&& b) / 16 % 2 ≤ a / 16 % 2 := and_bit_le a b 4
  have h5 : (a &&& b) / 32 % 2 ≤ a / 32 % 2 := and_bit_le a b 5
  have h6 : (a &&& b) / 64 % 2 ≤ a / 64 % 2 := and_bit_le a b 6
  have h7 : (a &&& b) / 128 % 2 ≤ a / 128 % 2 := and_bit_le a b 7
  unfold pc
  omega
theorem rk_le_r {n r : Nat} {V : Nat → Int32} (hW : WF n r V) (set : Nat) : rk V set ≤ r := fd_P (fun a => a ≤ r) (Nat.zero_le _) (fun x hx a ha => by
  have h1 := (hW.2.2.2.2.1 x (BL_mem.1 hx).1 (BL_mem.1 hx).2).2.1
  have h2 := pc_and_le x set
  show max a (pc (x &&& set)) ≤ r
  omega)
theorem rk_le_pc (V : Nat → Int32) (set : Nat) : rk V set ≤ pc set := fd_P (fun a => a ≤ pc set) (Nat.zero_le _) (fun x hx a ha => by
  have h2 := pc_and_le set x
  rw [Nat.and_comm] at h2
  show max a (pc (x &&& set)) ≤ pc set
  omega)
/-- a power, as the programs take it -/
def pw (x : Int32) (k : Nat) : Int64 := fd (fun _ a => a * x.toInt64) (List.range k) 1
theorem s_292 (x : Int32) {k : Nat} (hk : k < 1000) : m_292 x (nI k) = some (pw x k) := by
  unfold m_292
  refine lp_fd_s1 (fun k a => (a, nI k)) (fun _ a => a * x.toInt64) (fun a => a) (fun _ _ => True) k 1 ?_ ?_ trivial (by omega) rfl
  · intro i a hi _
    refine ⟨trivial, ?_⟩
    show m_292_b5 x (nI k) a (nI i) = _
    unfold m_292_b5
    rw [q_leF (by omega) hi, o_b1_s, i_add, o_b1_s]
  · intro a _
    show m_292_b5 x (nI k) a (nI k) = _
    unfold m_292_b5
    rw [q_leT (by omega) (Nat.le_refl _)]
theorem c_80 (x y : Int32) : m_80 x y = m_292 x y := rfl
def OPj (x y : Option Int64) : Prop := ∃ r, x = some r ∧ y = some r
theorem op_tutte {I : ai_I} {t L : Nat} (h : ST I) (s x y : Int32) : OPj (m_160 1 s x y I (Rc t) (Gc L)) (m_293 75 s x y I (Rc t) (Gc L)) := by
  unfold m_160 m_293
  have j4 : (-3 : Int64) = (-3 : Int32).toInt64 ∧ (4 : Int64) = (nI 4).toInt64 := by decide +kernel
  rw [r_1_0, k_2, o_g_t, s_200, o_b1_s, q_bz]
  rcases x_cases s (n := 3) (by decide) with ⟨k, hk, rfl⟩ | hs
  · rw [c_96 (by omega), o_b1_s, if_neg (by omega), if_pos (nI_in03 hk), j4.1, j4.2, s_189i, s_189i, o_b1_s, q_bz, o_b1_s, q_bz]
    obtain ⟨n, r, hW, hC, hI, hIr⟩ := h.1 k (by omega)
    have hn := hW.2.1
    have hr := hW.2.2.2.1
    have h8 := p2_le hn
    have h0 := Nat.two_pow_pos n
    have hv := vc_s (s := k) (by omega)
    by_cases hx : (-3 : Int32) ≤ x ∧ x ≤ nI 4
    · rw [if_neg (Int32.not_lt.2 hx.1), if_neg (Int32.not_lt.2 hx.2), if_pos hx]
      by_cases hy : (-3 : Int32) ≤ y ∧ y ≤ nI 4
      · rw [if_neg (Int32.not_lt.2 hy.1), if_pos hy.2, if_pos hy]
        have e1 : m_79 (6 + 4 * k) (x - nI 1) (y - nI 1) I (Rc t) (Gc L) = some (fd (fun set a => a + pw (x - nI 1) (r - rk (FV I k) set) * pw (y - nI 1) (pc set - rk (FV I k) set)) (List.range (2 ^ n)) 0) := by
          unfold m_79
          refine lp_fd_s1 (fun k a => (a, nI k)) (fun set a => a + pw (x - nI 1) (r - rk (FV I k) set) * pw (y - nI 1) (pc set - rk (FV I k) set)) (fun a => a) (fun _ _ => True) (2 ^ n) 0 ?_ ?_ trivial (by omega) rfl
          · intro i a hi _
            refine ⟨trivial, ?_⟩
            have h1 := rk_le_r hW i
            have h2 := rk_le_pc (FV I k) i
            have h3 := pc_le i
            show m_79_b5 (6 + 4 * k) (x - nI 1) (y - nI 1) I (Rc t) (Gc L) a (nI i) = _
            unfold m_79_b5
            rw [v_kd hv, o_g_t, c_118 hn hC.1, o_b1_s, q_leF (by omega) hi, v_rr hv, v_gr hv (by omega), o_g_t, i_cl (by omega), hC.2.2.2.2.1 i (by omega), o_b1_s, hC.2.1, i_sub h1, c_80, s_292 _ (by omega), o_b1_s, s_331 (by omega), o_b1_s, i_sub h2, c_80, s_292 _ (by omega), o_b1_s, o_b1_s, i_add, o_b1_s]
          · intro a _
            show m_79_b5 (6 + 4 * k) (x - nI 1) (y - nI 1) I (Rc t) (Gc L) a (nI (2 ^ n)) = _
            unfold m_79_b5
            rw [v_kd hv, o_g_t, c_118 hn hC.1, o_b1_s, q_leT (by omega) (Nat.le_refl _)]
        rw [e1, o_b1_s]
        refine ⟨_, rfl, ?_⟩
        refine lp_fd_s1 (fun k a => (a, nI k)) (fun set a => a + pw (x - nI 1) (r - rk (FV I k) set) * pw (y - nI 1) (pc set - rk (FV I k) set)) (fun a => a) (fun _ _ => True) (2 ^ n) 0 ?_ ?_ trivial (by omega) rfl
        · intro i a hi _
          refine ⟨trivial, ?_⟩
          have h1 := rk_le_r hW i
          have h2 := rk_le_pc (FV I k) i
          have h3 := pc_le i
          show m_293_b45 75 (nI k) x y I (Rc t) (Gc L) a (nI i) = _
          unfold m_293_b45
          rw [s_197 (by omega) hn hI, o_b1_s, q_ltF (by omega) (by omega), s_250 (by omega) (by omega), o_b1_s, s_196 (by omega), o_b1_s, hIr, i_sub h1, s_292 _ (by omega), o_b1_s, s_193 (by omega), o_b1_s, i_sub h2, s_292 _ (by omega), o_b1_s, o_b1_s, i_add, o_b1_s]
        · intro a _
          show m_293_b45 75 (nI k) x y I (Rc t) (Gc L) a (nI (2 ^ n)) = _
          unfold m_293_b45
          rw [s_197 (by omega) hn hI, o_b1_s, q_ltT (by omega) (by omega)]
      · rw [if_neg hy]
        refine ⟨_, ?_, rfl⟩
        by_cases h1 : y < (-3 : Int32)
        · rw [if_pos h1]
        · rw [if_neg h1, if_neg (fun h2 => hy ⟨Int32.not_lt.1 h1, h2⟩)]
    · rw [if_neg hx]
      refine ⟨_, ?_, rfl⟩
      by_cases h1 : x < (-3 : Int32)
      · rw [if_pos h1]
      · rw [if_neg h1]
        by_cases h2 : nI 4 < x
        · rw [if_pos h2]
        · exact absurd ⟨Int32.not_lt.1 h1, Int32.not_lt.1 h2⟩ hx
  · rw [c_96o hs, o_b1_s, if_pos rfl, if_neg hs]
    exact ⟨_, rfl, rfl⟩
