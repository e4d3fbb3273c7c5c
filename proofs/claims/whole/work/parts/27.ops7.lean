/-! Calls space, failing. -/
/-- both write aside -/
def OPc (I : ai_I) (x : Option (Int32 × ai_I)) (y : ai_I → Option (Int32 × ai_I)) : Prop := ∃ r I1 I2, x = some (r, I1) ∧ y I1 = some (r, I2) ∧ SAME I I2 ∧ I1 1999 = I 1999
/-- the reference takes the prices as numbers -/
theorem s_276 {I : ai_I} {t L s n : Nat} (hs : s < 12) (hn : n ≤ 8) (h : I 76 (258 * s) = nI n) : ∃ I2, m_276 75 (nI s) I (Rc t) (Gc L) = some I2 ∧ (∀ c, ¬ c = 84 → ¬ c = 75 → I2 c = I c) ∧ (∀ j, ¬ j = 23 → I2 75 j = I 75 j) ∧ I2 75 23 = nI (2 ^ n - 1) ∧ ∀ k, k < 8 → I2 84 k = RP I k := by
  unfold m_276
  rw [s_197 hs hn h, o_b1_s, o_b1_s]
  obtain ⟨I1, ⟨h1, h2, h3, h4⟩, h5⟩ := lp_ex (b := fun q => m_276_b11 75 (Rc t) (Gc L) q.1 q.2) (fun k (J : ai_I) => (nI k, J)) (fun J => J) (fun k J => (∀ c, ¬ c = 84 → ¬ c = 75 → J c = I c) ∧ (∀ j, ¬ j = 23 → J 75 j = I 75 j) ∧ J 75 23 = nI (2 ^ n - 1) ∧ ∀ j, j < k → J 84 j = RP I j) 8 (fun i J hi hJ => by
    obtain ⟨f1, f2, f3, f4⟩ := hJ
    refine ⟨va_up J 84 (va_up (J 84) i (RP I i)), ⟨fun c c1 c2 => by rw [up_ne c1]; exact f1 c c1 c2, fun j hj => by rw [up_ne (by decide)]; exact f2 j hj, by rw [up_ne (by decide)]; exact f3, fun j hj => ?_⟩, ?_⟩
    · rw [up_eq]
      by_cases h : j = i
      · rw [h, up_eq]
      · rw [up_ne h]
        exact f4 j (by omega)
    · show m_276_b11 75 (Rc t) (Gc L) (nI i) J = _
      unfold m_276_b11
      rw [q_leF (by decide) hi, r_75_0, i_add, g_76 (by omega), o_g_t, r_75_22, g_84 hi, o_g_t, i_cl (by omega), i_cl (by omega), o_b1_s, i_add, o_b1_s, f1 76 (by decide) (by decide)]
      rfl) (fun J hJ => by
    show m_276_b11 75 (Rc t) (Gc L) (nI 8) J = _
    unfold m_276_b11
    rw [q_leT (by decide) (Nat.le_refl _)]) 8 0 (va_up I 75 (va_up (I 75) 23 (nI (2 ^ n - 1)))) o_N (by omega) ⟨fun c c1 c2 => by rw [up_ne c2], fun j hj => by rw [up_eq, up_ne hj], by rw [up_eq, up_eq], fun j hj => absurd hj (Nat.not_lt_zero _)⟩ (show 8 < 2000000 by decide)
  refine ⟨I1, ?_, h1, h2, h3, h4⟩
  show o_s1 (lp (fun q => m_276_b11 75 (Rc t) (Gc L) q.1 q.2) o_N (nI 0, va_up I 75 (va_up (I 75) 23 (nI (2 ^ n - 1))))) _ = _
  rw [h5, o_s1_s]
  rfl
/-- the class takes the prices as numbers -/
theorem c_88 {I : ai_I} {t L v n : Nat} (hv : v ∈ VC) (hn : n ≤ 8) (h : I v 0 = nI n) : ∃ I1, m_88 59 v 4 I (Rc t) (Gc L) = some I1 ∧ (∀ c, ¬ c = 59 → ¬ c = 60 → I1 c = I c) ∧ I1 59 1 = nI (2 ^ n - 1) ∧ ∀ k, k < 8 → I1 60 k = I 4 k := by
  have hvb := vc_51 v hv
  have hc : o_cpy (Gc L) 4 60 (nI 0) (nI 0) (nI 8) = true := decide_eq_true ⟨rfl, rfl, by decide, by decide, by decide, Nat.le_of_ble_eq_true rfl, Nat.le_of_ble_eq_true rfl⟩
  unfold m_88
  rw [r_59_0, hc, o_g_t, o_b1_s, v_kd hv, o_g_t, c_119 hn (by rw [up_ne (by omega)]; exact h), o_b1_s, o_b1_s, i_cl (by decide), i_cl (by decide)]
  refine ⟨_, rfl, fun c c1 c2 => by rw [up_ne c1, up_ne c2], by rw [up_eq, up_eq], fun k hk => ?_⟩
  rw [up_ne (by decide), up_eq, cpy_at hk]
theorem tws_cong {V W num num2 : Nat → Int32} {hav x : Nat} (hV : ∀ k, k < 256 → V k = W k) (hN : ∀ e, e < 8 → num e = num2 e) (hx : x < 256) : tws V num hav x = tws W num2 hav x := fd_congr (fun e he a => by
  have he8 := List.mem_range.1 he
  unfold twc
  rw [hV _ (bit_xor_lt hx (p2_lt he8)), hN e he8])
theorem flq_cong {V W num num2 : Nat → Int32} {hav r n : Nat} (hn : n ≤ 8) (hV : ∀ k, k < 256 → V k = W k) (hN : ∀ e, e < 8 → num e = num2 e) : (List.range (2 ^ n)).filter (flq V num hav r) = (List.range (2 ^ n)).filter (flq W num2 hav r) := List.filter_congr (fun x hx => by
  have h8 := p2_le hn
  have hx2 := List.mem_range.1 hx
  unfold flq
  rw [tws_cong hV hN (by omega)])
/-- behind both: the numbers are the prices -/
theorem cs_sp {I : ai_I} {t L k : Nat} (h : ST I) (hk : k < 4) : ∃ n r I1 I2, WF n r (FV I k) ∧ CS I (6 + 4 * k) n r (FV I k) ∧ m_88 59 (6 + 4 * k) 4 I (Rc t) (Gc L) = some I1 ∧ CS I1 (6 + 4 * k) n r (FV I k) ∧ I1 59 1 = nI (2 ^ n - 1) ∧ m_276 75 (nI k) I1 (Rc t) (Gc L) = some I2 ∧ I2 75 23 = nI (2 ^ n - 1) ∧ I2 76 (258 * k) = nI n ∧ I2 76 (258 * k + 1) = nI r ∧ FV I2 k = FV I k ∧ SAME I I2 ∧ (∀ e, e < 8 → I1 60 e = RP I e) ∧ (∀ e, e < 8 → I2 84 e = RP I e) ∧ I1 1999 = I 1999 := by
  obtain ⟨n, r, hW, hC, hI, hIr⟩ := h.1 k hk
  have hn := hW.2.1
  obtain ⟨I1, a1, a2, a3, a4⟩ := c_88 (t := t) (L := L) (vc_s hk) hn hC.1
  have e76 : I1 76 = I 76 := a2 76 (by decide) (by decide)
  obtain ⟨I2, b1, b2, b3, b4, b5⟩ := s_276 (I := I1) (t := t) (L := L) (s := k) (n := n) (by omega) hn (by rw [e76]; exact hI)
  have e2 : I2 76 = I 76 := (b2 76 (by decide) (by decide)).trans e76
  refine ⟨n, r, I1, I2, hW, hC, a1, CS_cong (fun _ _ => rfl) (a2 _ (by omega) (by omega)) (a2 _ (by omega) (by omega)) (a2 _ (by omega) (by omega)) (a2 _ (by omega) (by omega)) hC, a3, b1, b4, by rw [e2]; exact hI, by rw [e2]; exact hIr, ?_, ⟨fun c hc => (b2 c (by omega) (by omega)).trans (a2 c (by omega) (by omega)), fun j _ => by rw [e2], (b2 77 (by decide) (by decide)).trans (a2 77 (by decide) (by decide)), (b3 1 (by decide)).trans (by rw [a2 75 (by decide) (by decide)]), (b3 3 (by decide)).trans (by rw [a2 75 (by decide) (by decide)]), (b2 1999 (by decide) (by decide)).trans (a2 1999 (by decide) (by decide))⟩, fun e he => ?_, fun e he => ?_, a2 1999 (by decide) (by decide)⟩
  · unfold FV
    rw [e2]
  · rw [a4 e he]
    exact (h.2.2.1 e he).1
  · rw [b5 e he]
    unfold RP
    rw [e76]
theorem op_failing {I : ai_I} {t L : Nat} (h : ST I) (s x : Int32) : OPc I (m_154 1 s x I (Rc t) (Gc L)) (fun I1 => m_278 75 s x I1 (Rc t) (Gc L)) := by
  unfold m_154 m_278
  rw [r_1_0, k_2, o_g_t, s_200]
  rcases x_cases s (n := 3) (by decide) with ⟨k, hk, rfl⟩ | hs
  · obtain ⟨n, r, I1, I2, hW, hC, a1, a2, a3, b1, b2, b3, b4, b5, b6, b7, b8, b9⟩ := cs_sp (t := t) (L := L) h (show k < 4 by omega)
    have hn := hW.2.1
    have hr := hW.2.2.2.1
    have h0 := Nat.two_pow_pos n
    have hv := vc_s (s := k) (by omega)
    have hlt : 2 ^ n - 1 < 2 ^ n := by omega
    rw [c_96 (by omega), o_b1_s, if_neg (by omega)]
    by_cases hx : (-1 : Int32) ≤ x
    · rw [if_pos hx, r_1_9, k_59, o_g_t, r_2_1, a1, o_b1_s]
      by_cases hx1 : x = (-1 : Int32)
      · rw [if_pos hx1, c_92 hv hW a2 a3 hlt, o_b1_s]
        refine ⟨_, I1, I2, rfl, ?_, b6, b9⟩
        show o_b1 (some (bz (nI 0 ≤ nI k ∧ nI k ≤ nI 3))) _ = _
        rw [o_b1_s, q_bz, if_pos (nI_in03 hk), if_pos hx, b1, o_b1_s, hx1, s_275c (by omega) hn (by omega) b3 b4 b2, o_b1_s, b5]
        unfold cnt
        rw [flq_cong hn (fun _ _ => rfl) (fun e he => (b7 e he).trans (b8 e he).symm)]
      · have hx2 : ¬ x < 0 := fun h1 => hx1 (by
          rw [Int32.lt_iff_toInt_lt] at h1
          rw [Int32.le_iff_toInt_le] at hx
          apply Int32.toInt_inj.1
          rw [show (-1 : Int32).toInt = -1 from by decide] at hx ⊢
          rw [show (0 : Int32).toInt = 0 from by decide] at h1
          omega)
        obtain ⟨j, hj, rfl⟩ := nI_of hx2
        rw [if_neg hx1, c_91 hv hW a2 a3 hlt hj, o_b1_s]
        refine ⟨_, I1, I2, rfl, ?_, b6, b9⟩
        show o_b1 (some (bz (nI 0 ≤ nI k ∧ nI k ≤ nI 3))) _ = _
        rw [o_b1_s, q_bz, if_pos (nI_in03 hk), if_pos hx, b1, o_b1_s, s_275 (by omega) hn (by omega) b3 b4 b2 hj, o_b1_s, b5, flq_cong hn (fun _ _ => rfl) (fun e he => (b7 e he).trans (b8 e he).symm)]
    · rw [if_neg hx]
      refine ⟨_, I, I, rfl, ?_, SAME_rf, rfl⟩
      show o_b1 (some (bz (nI 0 ≤ nI k ∧ nI k ≤ nI 3))) _ = _
      rw [o_b1_s, q_bz, if_pos (nI_in03 hk), if_neg hx]
  · rw [c_96o hs, o_b1_s, if_pos rfl]
    refine ⟨_, I, I, rfl, ?_, SAME_rf, rfl⟩
    show o_b1 (some (bz (nI 0 ≤ s ∧ s ≤ nI 3))) _ = _
    rw [o_b1_s, q_bz, if_neg hs]
theorem op_space {I : ai_I} {t L : Nat} (h : ST I) (s : Int32) : OPc I (m_153 1 s I (Rc t) (Gc L)) (fun I1 => m_277 75 s I1 (Rc t) (Gc L)) := by
  unfold m_153 m_277
  rw [r_1_0, k_2, o_g_t, s_200]
  rcases x_cases s (n := 3) (by decide) with ⟨k, hk, rfl⟩ | hs
  · obtain ⟨n, r, I1, I2, hW, hC, a1, a2, a3, b1, b2, b3, b4, b5, b6, b7, b8, b9⟩ := cs_sp (t := t) (L := L) h (show k < 4 by omega)
    have hn := hW.2.1
    have hr := hW.2.2.2.1
    have h8 := p2_le hn
    have h0 := Nat.two_pow_pos n
    have hv := vc_s (s := k) (by omega)
    have hlt : 2 ^ n - 1 < 2 ^ n := by omega
    rw [c_96 (by omega), o_b1_s, if_neg (by omega), r_1_9, k_59, o_g_t, r_2_1, a1, o_b1_s]
    have e1 : m_93 59 (6 + 4 * k) I1 (Rc t) (Gc L) = some (bz (cnt (flq (FV I k) (I1 60) (2 ^ n - 1) r) n = 0)) := by
      unfold m_93
      rw [c_91 hv hW a2 a3 hlt (by decide), o_b1_s]
      unfold nthE cnt
      cases hl : (List.range (2 ^ n)).filter (flq (FV I k) (I1 60) (2 ^ n - 1) r) with
      | nil => rfl
      | cons y l =>
        have hy : y < 2 ^ n := by
          have hm : y ∈ (List.range (2 ^ n)).filter (flq (FV I k) (I1 60) (2 ^ n - 1) r) := by rw [hl]; exact List.mem_cons_self ..
          exact List.mem_range.1 (List.mem_filter.1 hm).1
        show (if nI y = (-4 : Int32) then some (nI 1) else some (nI 0)) = _
        rw [if_neg (fun h1 => ?_), bz_f (by simp)]
        have h2 := congrArg Int32.toInt h1
        rw [nI_toInt (by omega), show (-4 : Int32).toInt = -4 from by decide] at h2
        omega
    have hc := cnt_le (p := flq (FV I k) (I1 60) (2 ^ n - 1) r) hn
    rw [e1, o_b1_s, c_182, o_b1_s]
    refine ⟨_, I1, I2, rfl, ?_, b6, b9⟩
    show o_b1 (some (bz (nI 0 ≤ nI k ∧ nI k ≤ nI 3))) _ = _
    have e2 : cnt (flq (FV I k) (I2 84) (2 ^ n - 1) r) n = cnt (flq (FV I k) (I1 60) (2 ^ n - 1) r) n := by
      unfold cnt
      rw [flq_cong hn (fun _ _ => rfl) (fun e he => (b8 e he).trans (b7 e he).symm)]
    rw [o_b1_s, q_bz, if_pos (nI_in03 hk), b1, o_b1_s, s_275c (by omega) hn (by omega) b3 b4 b2, o_b1_s, b5, e2, q_e0 (by omega)]
    by_cases hz : cnt (flq (FV I k) (I1 60) (2 ^ n - 1) r) n = 0
    · rw [if_pos hz, bz_t hz]
    · rw [if_neg hz, bz_f hz]
  · rw [c_96o hs, o_b1_s, if_pos rfl]
    refine ⟨_, I, I, rfl, ?_, SAME_rf, rfl⟩
    show o_b1 (some (bz (nI 0 ≤ s ∧ s ≤ nI 3))) _ = _
    rw [o_b1_s, q_bz, if_neg hs]
