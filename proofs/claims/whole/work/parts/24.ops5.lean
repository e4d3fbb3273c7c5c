/-! Calls gap, tips, exchange. -/
/-- the class writes aside, the reference only reads -/
def OPa (I : ai_I) (x : Option (Int32 × ai_I)) (y : ai_I → Option Int32) : Prop := ∃ r I1, x = some (r, I1) ∧ y I1 = some r ∧ SAME I I1
/-- the class only reads, the reference writes aside -/
def OPb (I : ai_I) (x : Option Int32) (y : Option (Int32 × ai_I)) : Prop := ∃ r I2, x = some r ∧ y = some (r, I2) ∧ SAME I I2
theorem SAME_57 {I I1 : ai_I} (h : ∀ c, ¬ c = 57 → ¬ c = 58 → I1 c = I c) : SAME I I1 := ⟨fun c hc => h c (by omega) (by omega), fun j _ => by rw [h 76 (by decide) (by decide)], h 77 (by decide) (by decide), by rw [h 75 (by decide) (by decide)], by rw [h 75 (by decide) (by decide)], h 1999 (by decide) (by decide)⟩
theorem s_202 {I : ai_I} {t L s n : Nat} (hs : s < 12) (hn : n ≤ 8) (h1 : 1 ≤ n) (h : I 76 (258 * s) = nI n) (x : Int32) : m_202 75 (nI s) x I (Rc t) (Gc L) = some (bz (nI 0 ≤ x ∧ x ≤ nI (n - 1))) := by
  unfold m_202
  rw [s_195 hs, o_b1_s, h, i_sub h1, j_lit.2.1, s_189i, o_b1_s, bz_bz, o_g_t]
theorem c_120' {I : ai_I} {v n : Nat} (hn : n ≤ 8) (h1 : 1 ≤ n) (h : I v 0 = nI n) (x : Int32) : m_120 v x I = some (bz (nI 0 ≤ x ∧ x ≤ nI (n - 1))) := by
  rw [c_120, h]
  refine congrArg some (bz_c ?_)
  rw [i_ltp h1 (by omega)]
  exact Iff.rfl
/-- the greatest sum of bases with an element, or without it -/
def gb (S : Nat → Int32) (e : Nat) (w : Int32) (l : List Nat) : Int32 := fd (fun x m => if bz (x.testBit e = true) = w then mx m (S x) else m) l NO
theorem s_299 {I : ai_I} {t L s e : Nat} (hs : s < 12) (he : e < 8) (w : Int32) : m_299 75 (nI s) (nI e) w I (Rc t) (Gc L) = some (gb (fun x => FV I s x + prs (RP I) x) e w (BL (FV I s))) := by
  unfold m_299
  refine lp_fd_s1 (fun k a => (a, nI k)) (fun x m => if decide (FV I s x ≠ NO) = true then (if bz (x.testBit e = true) = w then mx m (FV I s x + prs (RP I) x) else m) else m) (fun a => a) (fun _ _ => True) 256 NO ?_ ?_ trivial (by decide) ?_
  · intro x m hx _
    refine ⟨trivial, ?_⟩
    show m_299_b7 75 (nI s) (nI e) w I (Rc t) (Gc L) m (nI x) = _
    unfold m_299_b7
    rw [q_leF (by omega) hx, s_199 hs hx, o_b1_s, q_bz, s_192 hx (by omega), o_b1_s, s_265 hs hx, o_b1_s, s_191, o_b1_s, i_add, o_b1_s, o_b1_s]
    by_cases hV : FV I s x ≠ NO
    · rw [if_pos hV, if_pos (decide_eq_true hV)]
      by_cases hw : bz (x.testBit e = true) = w
      · rw [if_pos hw, if_pos hw]
        rfl
      · rw [if_neg hw, if_neg hw]
    · rw [if_neg hV, if_neg (fun h2 => hV (of_decide_eq_true h2))]
  · intro m _
    show m_299_b7 75 (nI s) (nI e) w I (Rc t) (Gc L) m (nI 256) = _
    unfold m_299_b7
    rw [q_leT (by decide) (Nat.le_refl _)]
  · rw [fd_filter]
    rfl
theorem c_110 {I : ai_I} {t L v n r e : Nat} {V S : Nat → Int32} (hv : v ∈ VC) (hW : WF n r V) (h : CS I v n r V) (hT : ∀ x, x < 256 → I 58 x = if V x ≠ NO then S x else NO) (he : e < 8) (w : Int32) : m_110 57 v (nI e) w I (Rc t) (Gc L) = some (gb S e w (BL V)) := by
  have hl := BL_len hW
  unfold m_110
  refine lp_fd_s1 (fun k a => (a, nI k)) (fun k m => (fun x m => if bz (x.testBit e = true) = w then mx m (S x) else m) ((BL V).getD k 0) m) (fun a => a) (fun _ _ => True) (BL V).length NO ?_ ?_ trivial (by omega) ?_
  · intro k m hk _
    have hb := BL_at hk
    refine ⟨trivial, ?_⟩
    show m_110_b7 57 v (nI e) w I (Rc t) (Gc L) m (nI k) = _
    unfold m_110_b7
    rw [v_kd hv, o_g_t, h.2.2.1, q_leF (by omega) hk, v_rb hv, v_gb hv (by omega), o_g_t, i_cl (by omega), h.2.2.2.2.2 k hk, c_183 hb.1 (by omega), o_b1_s, o_g_t, r_57_0, g_58 hb.1, o_g_t, i_cl (by omega), hT _ hb.1, if_pos hb.2, mx_lt, o_b1_s, i_add, o_b1_s, o_b1_s]
    by_cases hw : bz (((BL V).getD k 0).testBit e = true) = w
    · rw [if_pos hw]
      show _ = some (Sum.inl ((if bz (((BL V).getD k 0).testBit e = true) = w then mx m (S ((BL V).getD k 0)) else m), nI (k + 1)))
      rw [if_pos hw]
    · rw [if_neg hw]
      show _ = some (Sum.inl ((if bz (((BL V).getD k 0).testBit e = true) = w then mx m (S ((BL V).getD k 0)) else m), nI (k + 1)))
      rw [if_neg hw]
  · intro m _
    show m_110_b7 57 v (nI e) w I (Rc t) (Gc L) m (nI (BL V).length) = _
    unfold m_110_b7
    rw [v_kd hv, o_g_t, h.2.2.1, q_leT (by omega) (Nat.le_refl _)]
  · exact congrArg some (fd_get (fun x m => if bz (x.testBit e = true) = w then mx m (S x) else m) 0 (BL V) NO)
/-- behind the class's fill, by the prices at hand: its table and the reference's sums -/
theorem c_fill {I : ai_I} {t L k : Nat} (h : ST I) (hk : k < 4) : ∃ n r I1, WF n r (FV I k) ∧ CS I (6 + 4 * k) n r (FV I k) ∧ I 76 (258 * k) = nI n ∧ I 76 (258 * k + 1) = nI r ∧ m_104 57 (6 + 4 * k) 4 I (Rc t) (Gc L) = some I1 ∧ SAME I I1 ∧ CS I1 (6 + 4 * k) n r (FV I k) ∧ FV I1 k = FV I k ∧ RP I1 = RP I ∧ (∀ x, x < 256 → I1 58 x = if FV I k x ≠ NO then FV I k x + prs (RP I) x else NO) ∧ I1 57 1 = gs (fun x => FV I k x + prs (RP I) x) (BL (FV I k)) ∧ (∀ c, ¬ c = 57 → ¬ c = 58 → I1 c = I c) := by
  obtain ⟨n, r, hW, hC, hI, hIr⟩ := h.1 k hk
  have hpr : prs (I 4) = prs (RP I) := funext (fun x => prs_cong (fun e he => (h.2.2.1 e he).1) x)
  obtain ⟨I1, h1, h2, h3, h4⟩ := c_104 (t := t) (L := L) (p := 4) (vc_s hk) hW hC rfl rfl (by decide)
  rw [hpr] at h3 h4
  refine ⟨n, r, I1, hW, hC, hI, hIr, h1, SAME_57 h2, CS_cong (fun _ _ => rfl) (h2 _ (by omega) (by omega)) (h2 _ (by omega) (by omega)) (h2 _ (by omega) (by omega)) (h2 _ (by omega) (by omega)) hC, ?_, ?_, h3, h4, h2⟩
  · unfold FV
    rw [h2 76 (by decide) (by decide)]
  · unfold RP
    rw [h2 76 (by decide) (by decide)]
theorem op_gap {I : ai_I} {t L : Nat} (h : ST I) (s x y : Int32) : OPa I (m_164 1 s x y I (Rc t) (Gc L)) (fun I1 => m_300 75 s x y I1 (Rc t) (Gc L)) := by
  unfold m_164 m_300
  rw [r_1_0, k_2, o_g_t, s_200, j_lit.2.1, show (1 : Int64) = (nI 1).toInt64 from by decide +kernel]
  rcases x_cases s (n := 3) (by decide) with ⟨k, hk, rfl⟩ | hs
  · obtain ⟨n, r, I1, hW, hC, hI, hIr, f1, f2, f3, f4, f5, f6, f7, f8⟩ := c_fill (t := t) (L := L) h (show k < 4 by omega)
    have hn := hW.2.1
    have hn2 := hW.1
    have hv := vc_s (s := k) (by omega)
    rw [c_96 (by omega), o_b1_s, if_neg (by omega), v_kd hv, o_g_t, c_120' hn (by omega) hC.1, o_b1_s, q_bz]
    rcases x_cases x (n := n - 1) (by omega) with ⟨e, he, rfl⟩ | hx
    · have hin : nI 0 ≤ nI e ∧ nI e ≤ nI (n - 1) := ⟨nI_le (by omega) (by omega), nI_le he (by omega)⟩
      rw [if_pos hin]
      rcases x_cases y (n := 1) (by decide) with ⟨w, hw, rfl⟩ | hy
      · rw [q_n0 (by omega), q_leT (by decide) hw, r_1_8, k_57, o_g_t, r_2_1, f1, o_b1_s]
        refine ⟨gb (fun x => FV I k x + prs (RP I) x) e (if nI w = 0 then nI 1 else nI 0) (BL (FV I k)), I1, ?_, ?_, f2⟩
        · unfold m_164_j68
          rw [r_1_8, c_110 hv hW f3 f6 (by omega), c_110 hv hW f3 f6 (by omega), o_b1_s, o_b1_s]
          by_cases hw0 : nI w = 0
          · rw [if_pos hw0, if_pos hw0]
          · rw [if_neg hw0, if_neg hw0]
        · show o_b1 (some (bz (nI 0 ≤ nI k ∧ nI k ≤ nI 3))) _ = _
          rw [o_b1_s, q_bz, if_pos (nI_in03 hk), s_202 (by omega) hn (by omega) (by rw [f8 76 (by decide) (by decide)]; exact hI), o_b1_s, q_bz, if_pos hin, s_189i, o_b1_s, q_bz, if_pos ⟨nI_le (by omega) (by omega), nI_le hw (by decide)⟩]
          unfold m_300_j41
          rw [s_299 (by omega) (by omega), s_299 (by omega) (by omega), o_b1_s, o_b1_s, f4, f5]
          by_cases hw0 : nI w = 0
          · rw [if_pos hw0, if_pos hw0]
          · rw [if_neg hw0, if_neg hw0]
      · refine ⟨-2147483648, I, ?_, ?_, SAME_rf⟩
        · by_cases h1 : y < 0
          · rw [if_pos h1]
          · rw [if_neg h1, if_neg (fun h2 => hy ⟨Int32.not_lt.1 h1, h2⟩)]
        · show o_b1 (some (bz (nI 0 ≤ nI k ∧ nI k ≤ nI 3))) _ = _
          rw [o_b1_s, q_bz, if_pos (nI_in03 hk), s_202 (by omega) hn (by omega) hI, o_b1_s, q_bz, if_pos hin, s_189i, o_b1_s, q_bz, if_neg hy]
    · refine ⟨-2147483648, I, ?_, ?_, SAME_rf⟩
      · rw [if_neg hx]
      · show o_b1 (some (bz (nI 0 ≤ nI k ∧ nI k ≤ nI 3))) _ = _
        rw [o_b1_s, q_bz, if_pos (nI_in03 hk), s_202 (by omega) hn (by omega) hI, o_b1_s, q_bz, if_neg hx]
  · rw [c_96o hs, o_b1_s, if_pos rfl]
    refine ⟨-2147483648, I, rfl, ?_, SAME_rf⟩
    show o_b1 (some (bz (nI 0 ≤ s ∧ s ≤ nI 3))) _ = _
    rw [o_b1_s, q_bz, if_neg hs]
theorem op_tips {I : ai_I} {t L : Nat} (h : ST I) (s x : Int32) : OPa I (m_165 1 s x I (Rc t) (Gc L)) (fun I1 => m_301 75 s x I1 (Rc t) (Gc L)) := by
  unfold m_165 m_301
  rw [r_1_0, k_2, o_g_t, s_200]
  rcases x_cases s (n := 3) (by decide) with ⟨k, hk, rfl⟩ | hs
  · obtain ⟨n, r, I1, hW, hC, hI, hIr, f1, f2, f3, f4, f5, f6, f7, f8⟩ := c_fill (t := t) (L := L) h (show k < 4 by omega)
    have hn := hW.2.1
    have hn2 := hW.1
    have hv := vc_s (s := k) (by omega)
    rw [c_96 (by omega), o_b1_s, if_neg (by omega), v_kd hv, o_g_t, c_120' hn (by omega) hC.1, o_b1_s, q_bz]
    rcases x_cases x (n := n - 1) (by omega) with ⟨e, he, rfl⟩ | hx
    · have hin : nI 0 ≤ nI e ∧ nI e ≤ nI (n - 1) := ⟨nI_le (by omega) (by omega), nI_le he (by omega)⟩
      have hpe : I1 4 e = I1 76 (1032 + e) := by
        rw [f8 4 (by decide) (by decide), f8 76 (by decide) (by decide)]
        exact (h.2.2.1 e (by omega)).1
      rw [if_pos hin, r_1_8, k_57, o_g_t, r_2_1, f1, o_b1_s, c_110 hv hW f3 f6 (by omega), o_b1_s, c_110 hv hW f3 f6 (by omega), o_b1_s, g_4 (by omega), o_g_t, i_cl (by omega)]
      have hR : ∀ J : ai_I, J = I1 → (o_b1 (some (bz (nI 0 ≤ nI k ∧ nI k ≤ nI 3))) fun r_1 => if r_1 = 0 then some (-2147483648 : Int32) else o_b1 (m_202 75 (nI k) (nI e) J (Rc t) (Gc L)) fun r_10 => if r_10 = 0 then some (-2147483648 : Int32) else o_b1 (m_299 75 (nI k) (nI e) (nI 1) J (Rc t) (Gc L)) fun r_23 => o_b1 (m_299 75 (nI k) (nI e) (nI 0) J (Rc t) (Gc L)) fun r_31 => if r_23 = (-2147483648 : Int32) then some (-2147483648 : Int32) else if r_31 = (-2147483648 : Int32) then some (-2147483648 : Int32) else o_g (o_in (Gc L) 13 (Rc t 75 0) (nI 1032 + nI e)) (some (J (Rc t 75 0) (nI 1032 + nI e).toNatClampNeg + r_31 - r_23))) = (if gb (fun x => FV I k x + prs (RP I) x) e (nI 1) (BL (FV I k)) = (-2147483648 : Int32) then some (-2147483648 : Int32) else if gb (fun x => FV I k x + prs (RP I) x) e (nI 0) (BL (FV I k)) = (-2147483648 : Int32) then some (-2147483648 : Int32) else some (I1 4 e + gb (fun x => FV I k x + prs (RP I) x) e (nI 0) (BL (FV I k)) - gb (fun x => FV I k x + prs (RP I) x) e (nI 1) (BL (FV I k)))) := by
        intro J hJ
        subst hJ
        rw [o_b1_s, q_bz, if_pos (nI_in03 hk), s_202 (by omega) hn (by omega) (by rw [f8 76 (by decide) (by decide)]; exact hI), o_b1_s, q_bz, if_pos hin, s_299 (by omega) (by omega), o_b1_s, s_299 (by omega) (by omega), o_b1_s, f4, f5, r_75_0, i_add, g_76 (by omega), o_g_t, i_cl (by omega), ← hpe]
      by_cases c1 : gb (fun x => FV I k x + prs (RP I) x) e (nI 1) (BL (FV I k)) = (-2147483648 : Int32)
      · rw [if_pos c1]
        exact ⟨_, I1, rfl, (hR I1 rfl).trans (if_pos c1), f2⟩
      · rw [if_neg c1]
        by_cases c2 : gb (fun x => FV I k x + prs (RP I) x) e (nI 0) (BL (FV I k)) = (-2147483648 : Int32)
        · rw [if_pos c2]
          exact ⟨_, I1, rfl, (hR I1 rfl).trans ((if_neg c1).trans (if_pos c2)), f2⟩
        · rw [if_neg c2]
          exact ⟨_, I1, rfl, (hR I1 rfl).trans ((if_neg c1).trans (if_neg c2)), f2⟩
    · refine ⟨-2147483648, I, ?_, ?_, SAME_rf⟩
      · rw [if_neg hx]
      · show o_b1 (some (bz (nI 0 ≤ nI k ∧ nI k ≤ nI 3))) _ = _
        rw [o_b1_s, q_bz, if_pos (nI_in03 hk), s_202 (by omega) hn (by omega) hI, o_b1_s, q_bz, if_neg hx]
  · rw [c_96o hs, o_b1_s, if_pos rfl]
    refine ⟨-2147483648, I, rfl, ?_, SAME_rf⟩
    show o_b1 (some (bz (nI 0 ≤ s ∧ s ≤ nI 3))) _ = _
    rw [o_b1_s, q_bz, if_neg hs]
