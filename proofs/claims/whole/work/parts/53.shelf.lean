/-! Calls fault, shelf: the calls. -/
theorem j2_lit : (2 : Int64) = (nI 2).toInt64 := by decide +kernel
theorem j12_lit : (12 : Int64) = (nI 12).toInt64 := by decide +kernel
theorem fin_55 {I J K : ai_I} (h1 : ∀ c, ¬ c = 55 → ¬ c = 56 → J c = I c) (h2 : ot J K 83) : SAME I K := ⟨fun c hc => by rw [h2 c (by omega), h1 c (by omega) (by omega)], fun i _ => by rw [h2 76 (by decide), h1 76 (by decide) (by decide)], by rw [h2 77 (by decide), h1 77 (by decide) (by decide)], by rw [h2 75 (by decide), h1 75 (by decide) (by decide)], by rw [h2 75 (by decide), h1 75 (by decide) (by decide)], by rw [h2 1999 (by decide), h1 1999 (by decide) (by decide)]⟩
theorem hx_w {w : Nat} (hw : w < 2147483648) : ∀ m, m ≤ 524288 → ((nI m = nI w) = (m = w)) := fun m hm => i_eq (by omega) hw
theorem op_fault {I : ai_I} {t L : Nat} (h : ST I) (s x y : Int32) : OPc I (m_145 1 s x y I (Rc t) (Gc L)) (fun I1 => m_248 75 s x y I1 (Rc t) (Gc L)) := by
  unfold m_145
  rw [r_1_0, k_2, o_g_t]
  rcases x_cases s (n := 3) (by decide) with ⟨k, hk, rfl⟩ | hs
  · rw [c_96 (by omega), o_b1_s, if_neg (by omega)]
    obtain ⟨n, r, hW, hC, hI, hIr⟩ := h.1 k (by omega)
    have hv := vc_s (s := k) (by omega)
    have hvk := v_kind (L := L) hv
    by_cases hx : x < 0
    · rw [if_pos hx]
      refine ⟨_, I, I, rfl, ?_, SAME_rf, rfl⟩
      show m_248 75 (nI k) x y I (Rc t) (Gc L) = _
      unfold m_248
      rw [s_200, o_b1_s, q_bz, if_pos (nI_in03 hk), if_pos hx]
    · obtain ⟨w, hw, rfl⟩ := nI_of hx
      rw [if_neg hx]
      have er : ∀ J : ai_I, m_248 75 (nI k) (nI w) y J (Rc t) (Gc L) = (if nI 0 ≤ y ∧ y ≤ nI 2 then o_b1 (m_244 75 (nI k) (nI 0) J (Rc t) (Gc L)) (fun I_28 => o_b1 (m_246 75 (nI w) I_28 (Rc t) (Gc L)) (fun r_33 => if 0 ≤ r_33 then (if y = 0 then (some (r_33 / (nI 2048), I_28)) else (if y = (nI 1) then (some ((r_33 / (nI 8)) - (r_33 / (nI 8)) / (nI 256) * (nI 256), I_28)) else (some (r_33 - r_33 / (nI 8) * (nI 8), I_28)))) else (some ((-4 : Int32), I_28)))) else some (-1, J)) := fun J => by
        unfold m_248
        rw [s_200, o_b1_s, q_bz, if_pos (nI_in03 hk), if_neg hx, j_lit.2.1, j2_lit, s_189i, o_b1_s, q_bz]
      rcases x_cases y (n := 2) (by decide) with ⟨u, hu, rfl⟩ | hy
      · rw [q_n0 (by omega), q_leT (by decide) hu, v_kd hv, o_g_t, r_1_7, k_55, o_g_t, v_rv hv]
        obtain ⟨q, q1, q2, q3⟩ := c_32 (t := t) (L := L) (c := 6 + 4 * k + 1) (w := w) hv hW hC hvk.1.1 hvk.1.2 (by omega) (fun j hj hV => (hC.2.2.2.1 j hj).trans hV) hw
        have hF : FV q.2 k = FV I k := by
          unfold FV
          rw [q2 76 (by decide)]
        obtain ⟨I2, g1, g2, g3⟩ := s_244 (I := q.2) (t := t) (L := L) (s := k) (w := 0) (by omega) (by decide)
        have hcg : ∀ j, j < 256 → I (6 + 4 * k + 1) j = I2 83 j := fun j hj => by
          rw [g3 j hj, hC.2.2.2.1 j hj, hF]
          unfold wrow
          by_cases hV : FV I k j ≠ NO
          · rw [if_pos hV, if_pos rfl]
          · rw [if_neg hV]
            exact Decidable.of_not_not hV
        obtain ⟨z, z1, z2⟩ := s_246 (I := I2) (t := t) (L := L) (hx_w hw)
        have hS := fin_55 (I := I) (J := q.2) (K := I2) (fun c c1 _ => q2 c c1) g2
        have hu3 : u = 0 ∨ u = 1 ∨ u = 2 := by omega
        have hin : nI 0 ≤ nI u ∧ nI u ≤ nI 2 := ⟨nI_le (by omega) (by omega), nI_le hu (by decide)⟩
        rw [q1, o_b2]
        rcases q3 with ⟨f, f1, f2, f3, f4, f5⟩ | ⟨f1, f2⟩
        · have hf := f1.1
          have hww : w ≤ 524288 := by have := f1.2.2; have := fln_le (flt (I (6 + 4 * k + 1))) f; omega
          have hz : z = nI f := by
            rcases z2 with ⟨g, e1, e2⟩ | ⟨e1, e2⟩
            · rw [e2, fnd_one (fnd_cong hcg f1) e1]
            · exact (fnd_not (fnd_cong hcg f1) e2).elim
          rw [f2, if_pos (nI_lt (by omega) (by omega))]
          refine ⟨if u = 0 then nI (f / 2048) else if u = 1 then nI (f / 8 % 256) else nI (f % 8), q.2, I2, ?_, ?_, hS, q2 1999 (by decide)⟩
          · rcases hu3 with rfl | rfl | rfl
            · rw [if_pos (by decide), if_pos rfl, f3]
            · rw [if_neg (by decide), if_pos rfl, if_neg (by decide), if_pos rfl, f4]
            · rw [if_neg (by decide), if_neg (by decide), if_neg (by decide), if_neg (by decide), f5]
          · show m_248 75 (nI k) (nI w) (nI u) q.2 (Rc t) (Gc L) = _
            rw [er, if_pos hin, g1, o_b1_s, z1, o_b1_s, hz, q_p0 (by omega)]
            rcases hu3 with rfl | rfl | rfl
            · rw [if_pos (by decide), if_pos rfl, pk_div (by omega) (by decide) (by decide)]
            · rw [if_neg (by decide), if_pos rfl, if_neg (by decide), if_pos rfl, pk_div (by omega) (by decide) (by decide), pk_rem (by omega) (by decide) (by decide)]
            · rw [if_neg (by decide), if_neg (by decide), if_neg (by decide), if_neg (by decide), pk_rem (by omega) (by decide) (by decide)]
        · rw [f1, if_neg (nI_nlt f2 hw)]
          refine ⟨_, q.2, I2, rfl, ?_, hS, q2 1999 (by decide)⟩
          show m_248 75 (nI k) (nI w) (nI u) q.2 (Rc t) (Gc L) = _
          rw [er, if_pos hin, g1, o_b1_s, z1, o_b1_s]
          have hz : z = -4 := by
            rcases z2 with ⟨g, e1, e2⟩ | ⟨e1, e2⟩
            · exact (fnd_not (fnd_cong (fun j hj => (hcg j hj).symm) e1) f2).elim
            · rw [e1, if_pos (nI_pos' hw)]
          rw [hz, if_neg (by decide)]
      · refine ⟨-1, I, I, ?_, ?_, SAME_rf, rfl⟩
        · by_cases h1 : y < 0
          · rw [if_pos h1]
          · rw [if_neg h1, if_neg (fun h2 => hy ⟨Int32.not_lt.1 h1, h2⟩)]
        · show m_248 75 (nI k) (nI w) y I (Rc t) (Gc L) = _
          rw [er, if_neg hy]
  · rw [c_96o hs, o_b1_s, if_pos rfl]
    refine ⟨_, I, I, rfl, ?_, SAME_rf, rfl⟩
    show m_248 75 s x y I (Rc t) (Gc L) = _
    unfold m_248
    rw [s_200, o_b1_s, q_bz, if_neg hs]
theorem lits : (0 : Int32) = nI 0 ∧ (1 : Int32) = nI 1 ∧ (2 : Int32) = nI 2 ∧ (3 : Int32) = nI 3 ∧ (4 : Int32) = nI 4 ∧ (5 : Int32) = nI 5 ∧ (6 : Int32) = nI 6 ∧ (7 : Int32) = nI 7 ∧ (8 : Int32) = nI 8 ∧ (9 : Int32) = nI 9 ∧ (10 : Int32) = nI 10 ∧ (11 : Int32) = nI 11 ∧ (12 : Int32) = nI 12 := by decide
theorem gv_one {V : Nat → Int32} {b : Nat} {z : Int32} (h1 : b ∈ BL V) (h2 : ∀ c ∈ BL V, V c ≤ V b) (h3 : ∀ k, k < 256 → V k ≤ z) (h4 : z = NO ∨ ∃ k, k < 256 ∧ V k = z) : z = V b := by
  have hb := BL_mem.1 h1
  have h5 := h3 b hb.1
  rcases h4 with h4 | ⟨k, hk, h4⟩
  · rw [h4] at h5
    exact absurd (Int32.le_antisymm h5 (Int32.minValue_le _)) hb.2
  · by_cases hV : V k = NO
    · rw [← h4, hV] at h5
      exact absurd (Int32.le_antisymm h5 (Int32.minValue_le _)) hb.2
    · rw [← h4] at h5 ⊢
      exact Int32.le_antisymm (h2 k (BL_mem.2 ⟨hk, hV⟩)) h5
theorem wrow_0 (V : Nat → Int32) (j : Nat) : wrow V 0 j = V j := by
  unfold wrow
  by_cases hV : V j ≠ NO
  · rw [if_pos hV, if_pos rfl]
  · rw [if_neg hV]
    exact (Decidable.of_not_not hV).symm
theorem hold_one {T U : Nat → Int32} {q : Int32} {J : ai_I} (h1 : (∃ f, fnd T 0 f ∧ q = nI (0 + 1) ∧ J 55 0 = nI (f / 2048) ∧ J 55 1 = nI (f / 8 % 256) ∧ J 55 2 = nI (f % 8)) ∨ (q = nI (fln (flt T) 524288) ∧ fln (flt T) 524288 ≤ 0)) (h : ∀ j, j < 256 → T j = U j) (u : Int32) (h2 : (∃ f, fnd U 0 f ∧ u = nI f) ∨ (u = (if 0 ≤ nI 0 then -4 else nI (fln (flt U) 524288)) ∧ fln (flt U) 524288 ≤ 0)) (I2 : ai_I) : (o_b1 (if u = (-4 : Int32) then some (nI 1) else some (nI 0)) fun r_154 => if r_154 = 0 then some (nI 0, I2) else some (nI 1, I2)) = some (if q = 0 then nI 1 else nI 0, I2) := by
  rcases h1 with ⟨f, f1, f2, -⟩ | ⟨f1, f2⟩
  · rcases h2 with ⟨g, g1, g2⟩ | ⟨g1, g2⟩
    · have hg := g1.1
      rw [f2, g2, if_neg (show ¬ nI g = (-4 : Int32) from fun h9 => ?_), if_neg (by decide), o_b1_s, if_pos (by decide)]
      have h8 := congrArg Int32.toInt h9
      rw [nI_toInt (by omega), show (-4 : Int32).toInt = -4 from by decide] at h8
      omega
    · exact (fnd_not (fnd_cong h f1) g2).elim
  · rcases h2 with ⟨g, g1, g2⟩ | ⟨g1, g2⟩
    · exact (fnd_not (fnd_cong (fun j hj => (h j hj).symm) g1) f2).elim
    · rw [if_pos (show (0 : Int32) ≤ nI 0 by decide)] at g1
      rw [f1, g1, if_pos rfl, show fln (flt T) 524288 = 0 by omega, if_pos (by decide), o_b1_s, if_neg (by decide)]
theorem op_shelf {I : ai_I} {t L : Nat} (h : ST I) (s x : Int32) : OPc I (m_142 1 s x I (Rc t) (Gc L)) (fun I1 => m_262 75 s x I1 (Rc t) (Gc L)) := by
  rcases x_cases s (n := 3) (by decide) with ⟨k, hk, rfl⟩ | hs
  · obtain ⟨n, r, hW, hC, hI, hIr⟩ := h.1 k (by omega)
    have hn := hW.2.1
    have hv := vc_s (s := k) (by omega)
    have hvk := v_kind (L := L) hv
    have hx9 : ∀ m, m ≤ 524288 → ((nI m = (-1 : Int32)) = (m = 600000)) := fun m hm => propext ⟨fun h9 => absurd h9 (nI_m1 (by omega)), fun h9 => by omega⟩
    rcases x_cases x (n := 12) (by decide) with ⟨w, hw, rfl⟩ | hx
    · have fin : ∀ (x : Int32) (J : ai_I), (∀ c, ¬ c = 55 → ¬ c = 56 → J c = I c) → m_142 1 (nI k) (nI w) I (Rc t) (Gc L) = some (x, J) → (∀ I2 : ai_I, ot J I2 83 → (∀ j, j < 256 → I2 83 j = wrow (FV I k) (if w = 8 then 1 else 0) j) → FV I2 k = FV I k → I2 76 (258 * k) = nI n → I2 76 (258 * k + 1) = nI r → (∀ y, (if nI w = nI 8 then m_262_j35 75 (nI k) (nI w) J (Rc t) (Gc L) (nI 1) else m_262_j35 75 (nI k) (nI w) J (Rc t) (Gc L) (nI 0)) = y → m_244 75 (nI k) (nI (if w = 8 then 1 else 0)) J (Rc t) (Gc L) = some I2 → y = some (x, I2))) → OPc I (m_142 1 (nI k) (nI w) I (Rc t) (Gc L)) (fun I1 => m_262 75 (nI k) (nI w) I1 (Rc t) (Gc L)) := by
        intro x J hJ hc hr
        have hF : FV J k = FV I k := by
          unfold FV
          rw [hJ 76 (by decide) (by decide)]
        obtain ⟨I2, g1, g2, g3⟩ := s_244 (I := J) (t := t) (L := L) (s := k) (w := if w = 8 then 1 else 0) (by omega) (by split <;> decide)
        rw [hF] at g3
        have h76 : I2 76 = I 76 := (g2 76 (by decide)).trans (hJ 76 (by decide) (by decide))
        have e := hr I2 g2 g3 (by unfold FV; rw [h76]) (by rw [h76]; exact hI) (by rw [h76]; exact hIr) _ rfl g1
        refine ⟨x, J, I2, hc, ?_, fin_55 hJ g2, hJ 1999 (by decide) (by decide)⟩
        show m_262 75 (nI k) (nI w) J (Rc t) (Gc L) = _
        rw [← e]
        unfold m_262
        rw [s_200, o_b1_s, q_bz, if_pos (nI_in03 hk), j_lit.2.1, j12_lit, s_189i, o_b1_s, q_bz, if_pos ⟨nI_le (by omega) (by omega), nI_le hw (by decide)⟩]
      have idI : ∀ c, ¬ c = 55 → ¬ c = 56 → I c = I c := fun _ _ _ => rfl
      have hw13 : w = 0 ∨ w = 1 ∨ w = 2 ∨ w = 3 ∨ w = 4 ∨ w = 5 ∨ w = 6 ∨ w = 7 ∨ w = 8 ∨ w = 9 ∨ w = 10 ∨ w = 11 ∨ w = 12 := by omega
      rcases hw13 with rfl | rfl | rfl | rfl | rfl | rfl | rfl | rfl | rfl | rfl | rfl | rfl | rfl
      · refine fin (nI n) I idI ?_ ?_
        · unfold m_142
          rw [r_1_0, k_2, o_g_t, c_96 (by omega), o_b1_s, if_neg (by omega)]
          simp (disch := decide) only [if_pos, if_neg]
          rw [v_kd hv, o_g_t, hC.1]
        · intro I2 g2 g3 hF g5 g6 y hy g1
          rw [← hy]
          simp (disch := decide) only [if_pos, if_neg] at g1 g3
          simp (disch := decide) only [if_pos, if_neg, m_262_j35]
          rw [g1, o_b1_s]
          rw [s_195 (by omega), o_b1_s, g5]
      · refine fin (nI r) I idI ?_ ?_
        · unfold m_142
          rw [r_1_0, k_2, o_g_t, c_96 (by omega), o_b1_s, if_neg (by omega)]
          simp (disch := decide) only [if_pos, if_neg]
          rw [v_kd hv, o_g_t, hC.2.1]
        · intro I2 g2 g3 hF g5 g6 y hy g1
          rw [← hy]
          simp (disch := decide) only [if_pos, if_neg] at g1 g3
          simp (disch := decide) only [if_pos, if_neg, m_262_j35]
          rw [g1, o_b1_s]
          rw [s_196 (by omega), o_b1_s, g6]
      · refine fin (nI (BL (FV I k)).length) I idI ?_ ?_
        · unfold m_142
          rw [r_1_0, k_2, o_g_t, c_96 (by omega), o_b1_s, if_neg (by omega)]
          simp (disch := decide) only [if_pos, if_neg]
          rw [v_kd hv, o_g_t, hC.2.2.1]
        · intro I2 g2 g3 hF g5 g6 y hy g1
          rw [← hy]
          simp (disch := decide) only [if_pos, if_neg] at g1 g3
          simp (disch := decide) only [if_pos, if_neg, m_262_j35]
          rw [g1, o_b1_s]
          rw [s_204 (by omega), o_b1_s, hF]
      · obtain ⟨z, z1, b, b1, rfl, b2, b3⟩ := c_125 (t := t) (L := L) hv hW hC
        have hb := BL_mem.1 b1
        refine fin (FV I k b) I idI ?_ ?_
        · unfold m_142
          rw [r_1_0, k_2, o_g_t, c_96 (by omega), o_b1_s, if_neg (by omega)]
          simp (disch := decide) only [if_pos, if_neg]
          unfold m_124
          rw [v_kd hv, o_g_t, z1, o_b1_s, v_rv hv, v_gv hv hb.1, o_g_t, i_cl (by omega), hC.2.2.2.1 b hb.1, o_b1_s]
        · intro I2 g2 g3 hF g5 g6 y hy g1
          rw [← hy]
          simp (disch := decide) only [if_pos, if_neg] at g1 g3
          simp (disch := decide) only [if_pos, if_neg, m_262_j35]
          rw [g1, o_b1_s]
          obtain ⟨z, z1, z2, z3⟩ := s_259 (I := I2) (t := t) (L := L) (s := k) (by omega)
          rw [hF] at z2 z3
          rw [z1, o_b1_s, gv_one b1 b2 z2 z3]
      · obtain ⟨z, z1, b, b1, rfl, b2, b3⟩ := c_125 (t := t) (L := L) hv hW hC
        have hb := BL_mem.1 b1
        refine fin (nI b) I idI ?_ ?_
        · unfold m_142
          rw [r_1_0, k_2, o_g_t, c_96 (by omega), o_b1_s, if_neg (by omega)]
          simp (disch := decide) only [if_pos, if_neg]
          rw [v_kd hv, o_g_t, z1, o_b1_s]
        · intro I2 g2 g3 hF g5 g6 y hy g1
          rw [← hy]
          simp (disch := decide) only [if_pos, if_neg] at g1 g3
          simp (disch := decide) only [if_pos, if_neg, m_262_j35]
          rw [g1, o_b1_s]
          obtain ⟨z, z1, z2, z3⟩ := s_259 (I := I2) (t := t) (L := L) (s := k) (by omega)
          rw [hF] at z2 z3
          obtain ⟨u, u1, j, u2, rfl, u3⟩ := s_260 (I := I2) (t := t) (L := L) (s := k) (b := b) (by omega) hb.1
          rw [hF] at u1 u3
          rw [z1, o_b1_s, gv_one b1 b2 z2 z3, u1, o_b1_s]
          have e : j = b := by
            apply Decidable.byContradiction
            intro h9
            have h8 := b3 j (BL_mem.2 ⟨by omega, by rw [u3]; exact hb.2⟩) (by omega)
            rw [u3] at h8
            exact Int32.lt_irrefl h8
          rw [e]
      · refine fin (nI (lps (FV I k) n)) I idI ?_ ?_
        · unfold m_142
          rw [r_1_0, k_2, o_g_t, c_96 (by omega), o_b1_s, if_neg (by omega)]
          simp (disch := decide) only [if_pos, if_neg]
          rw [c_66 hv hW hC, o_b1_s]
        · intro I2 g2 g3 hF g5 g6 y hy g1
          rw [← hy]
          simp (disch := decide) only [if_pos, if_neg] at g1 g3
          simp (disch := decide) only [if_pos, if_neg, m_262_j35]
          rw [g1, o_b1_s]
          rw [s_261 (by omega) (by rw [hF]; exact hW) g5 (by decide), o_b1_s, hF, if_pos rfl]
      · refine fin (nI (brg (FV I k) n)) I idI ?_ ?_
        · unfold m_142
          rw [r_1_0, k_2, o_g_t, c_96 (by omega), o_b1_s, if_neg (by omega)]
          simp (disch := decide) only [if_pos, if_neg]
          rw [c_67 hv hW hC, o_b1_s]
        · intro I2 g2 g3 hF g5 g6 y hy g1
          rw [← hy]
          simp (disch := decide) only [if_pos, if_neg] at g1 g3
          simp (disch := decide) only [if_pos, if_neg, m_262_j35]
          rw [g1, o_b1_s]
          rw [s_261 (by omega) (by rw [hF]; exact hW) g5 (by decide), o_b1_s, hF, if_neg (by decide)]
      · obtain ⟨q, q1, q2, q3⟩ := c_32 (t := t) (L := L) (c := 6 + 4 * k + 1) (w := 0) hv hW hC hvk.1.1 hvk.1.2 (by omega) (fun j hj hV => (hC.2.2.2.1 j hj).trans hV) (by decide)
        refine fin (if q.1 = 0 then nI 1 else nI 0) q.2 (fun c c1 _ => q2 c c1) ?_ ?_
        · unfold m_142
          rw [r_1_0, k_2, o_g_t, c_96 (by omega), o_b1_s, if_neg (by omega)]
          simp (disch := decide) only [if_pos, if_neg]
          rw [v_kd hv, o_g_t, r_1_7, k_55, o_g_t, v_rv hv, q1, o_b2]
          by_cases e : q.1 = 0
          · rw [if_pos e, if_pos e]
            rfl
          · rw [if_neg e, if_neg e]
            rfl
        · intro I2 g2 g3 hF g5 g6 y hy g1
          rw [← hy]
          simp (disch := decide) only [if_pos, if_neg] at g1 g3
          simp (disch := decide) only [if_pos, if_neg, m_262_j35]
          rw [g1, o_b1_s]
          have hc := hold_one (T := I (6 + 4 * k + 1)) (U := I2 83) (q := q.1) (J := q.2) q3 (fun j hj => by
            rw [g3 j hj, hC.2.2.2.1 j hj]
            exact (wrow_0 _ _).symm)
          obtain ⟨u, u1, u2⟩ := s_246 (I := I2) (t := t) (L := L) (hx_w (show 0 < 2147483648 by decide))
          unfold m_247
          rw [u1, o_b1_s]
          exact hc u u2 I2
      · obtain ⟨p, p1, p2, p3, p4⟩ := c_35 (t := t) (L := L) hv hW hC
        have hC2 : CS p.2 (6 + 4 * k) n r (FV I k) := CS_cong (fun _ _ => rfl) (p3 _ (by omega)) (p3 _ (by omega)) (p3 _ (by omega)) (p3 _ (by omega)) hC
        obtain ⟨q, q1, q2, q3⟩ := c_32 (t := t) (L := L) (c := 56) (w := 0) hv hW hC2 rfl rfl (by decide) (fun j hj hV => by rw [p4 j hj]; unfold wrow; rw [if_neg (fun h9 => h9 hV)]) (by decide)
        refine fin (if q.1 = 0 then nI 1 else nI 0) q.2 (fun c c1 c2 => (q2 c c1).trans (p3 c c2)) ?_ ?_
        · unfold m_142
          rw [r_1_0, k_2, o_g_t, c_96 (by omega), o_b1_s, if_neg (by omega)]
          simp (disch := decide) only [if_pos, if_neg]
          rw [r_1_7, k_55, o_g_t, p1, o_b2, p2, q1, o_b2]
          by_cases e : q.1 = 0
          · rw [if_pos e, if_pos e]
            rfl
          · rw [if_neg e, if_neg e]
            rfl
        · intro I2 g2 g3 hF g5 g6 y hy g1
          rw [← hy]
          simp (disch := decide) only [if_pos, if_neg] at g1 g3
          simp (disch := decide) only [if_pos, if_neg, m_262_j35]
          rw [g1, o_b1_s]
          have hc := hold_one (T := p.2 56) (U := I2 83) (q := q.1) (J := q.2) q3 (fun j hj => by
            rw [g3 j hj, p4 j hj])
          obtain ⟨u, u1, u2⟩ := s_246 (I := I2) (t := t) (L := L) (hx_w (show 0 < 2147483648 by decide))
          unfold m_247
          rw [u1, o_b1_s]
          exact hc u u2 I2
      · refine fin (nI (cnt (fun x => decide (rk (FV I k) x = pc x)) n)) I idI ?_ ?_
        · unfold m_142
          rw [r_1_0, k_2, o_g_t, c_96 (by omega), o_b1_s, if_neg (by omega)]
          simp (disch := decide) only [if_pos, if_neg]
          rw [c_68 hv hW hC, o_b1_s]
        · intro I2 g2 g3 hF g5 g6 y hy g1
          rw [← hy]
          simp (disch := decide) only [if_pos, if_neg] at g1 g3
          simp (disch := decide) only [if_pos, if_neg, m_262_j35]
          rw [g1, o_b1_s]
          rw [i_sub (by decide), s_258 (n := n) (by omega) hn g5 0 _ (Or.inl ⟨rfl, rfl⟩), o_b1_s, hF]
      · refine fin (nI (cnt (fun x => decide (clo (FV I k) n x = x)) n)) I idI ?_ ?_
        · unfold m_142
          rw [r_1_0, k_2, o_g_t, c_96 (by omega), o_b1_s, if_neg (by omega)]
          simp (disch := decide) only [if_pos, if_neg]
          rw [c_71 hv hW hC, o_b1_s]
        · intro I2 g2 g3 hF g5 g6 y hy g1
          rw [← hy]
          simp (disch := decide) only [if_pos, if_neg] at g1 g3
          simp (disch := decide) only [if_pos, if_neg, m_262_j35]
          rw [g1, o_b1_s]
          rw [i_sub (by decide), s_258 (n := n) (by omega) hn g5 1 _ (Or.inr (Or.inl ⟨rfl, rfl⟩)), o_b1_s, hF]
      · refine fin (nI (cnt (circ (FV I k)) n)) I idI ?_ ?_
        · unfold m_142
          rw [r_1_0, k_2, o_g_t, c_96 (by omega), o_b1_s, if_neg (by omega)]
          simp (disch := decide) only [if_pos, if_neg]
          rw [c_74 hv hW hC, o_b1_s]
        · intro I2 g2 g3 hF g5 g6 y hy g1
          rw [← hy]
          simp (disch := decide) only [if_pos, if_neg] at g1 g3
          simp (disch := decide) only [if_pos, if_neg, m_262_j35]
          rw [g1, o_b1_s]
          rw [i_sub (by decide), s_258 (n := n) (by omega) hn g5 2 _ (Or.inr (Or.inr ⟨rfl, rfl⟩)), o_b1_s, hF]
      · obtain ⟨q, q1, q2, q3⟩ := c_32 (t := t) (L := L) (c := 6 + 4 * k + 1) (w := 2147483647) hv hW hC hvk.1.1 hvk.1.2 (by omega) (fun j hj hV => (hC.2.2.2.1 j hj).trans hV) (by decide)
        refine fin (q.1) q.2 (fun c c1 _ => q2 c c1) ?_ ?_
        · unfold m_142
          rw [r_1_0, k_2, o_g_t, c_96 (by omega), o_b1_s, if_neg (by omega)]
          simp (disch := decide) only [if_pos, if_neg]
          rw [v_kd hv, o_g_t, r_1_7, k_55, o_g_t, v_rv hv, q1, o_b2]
        · intro I2 g2 g3 hF g5 g6 y hy g1
          rw [← hy]
          simp (disch := decide) only [if_pos, if_neg] at g1 g3
          simp (disch := decide) only [if_pos, if_neg, m_262_j35]
          rw [g1, o_b1_s]
          obtain ⟨u, u1, u2⟩ := s_246 (I := I2) (t := t) (L := L) hx9
          have hcg : ∀ j, j < 256 → I (6 + 4 * k + 1) j = I2 83 j := fun j hj => by
            rw [g3 j hj, hC.2.2.2.1 j hj]
            exact (wrow_0 _ _).symm
          rw [u1, o_b1_s]
          rcases q3 with ⟨f, f1, -⟩ | ⟨e1, e2⟩
          · have h1 := f1.2.2
            have h2 := fln_le (flt (I (6 + 4 * k + 1))) f
            have h3 := f1.1
            omega
          · rcases u2 with ⟨f, f1, -⟩ | ⟨e3, e4⟩
            · have h1 := f1.2.2
              have h2 := fln_le (flt (I2 83)) f
              have h3 := f1.1
              omega
            · rw [e1, e3, if_neg (by decide), fln_cong 524288 (fun c hc => flt_cong hcg hc)]
    · refine ⟨NO, I, I, ?_, ?_, SAME_rf, rfl⟩
      · unfold m_142
        rw [r_1_0, k_2, o_g_t, c_96 (by omega), o_b1_s, if_neg (by omega)]
        have hne : ∀ j, j ≤ 12 → ¬ x = nI j := fun j hj h9 => hx (by rw [h9]; exact ⟨nI_le (by omega) (by omega), nI_le hj (by decide)⟩)
        obtain ⟨l0, l1, l2, l3, l4, l5, l6, l7, l8, l9, l10, l11, l12⟩ := lits
        rw [l0, l1, l2, l3, l4, l5, l6, l7, l8, l9, l10, l11, l12, if_neg (hne 0 (by omega)), if_neg (hne 1 (by omega)), if_neg (hne 2 (by omega)), if_neg (hne 3 (by omega)), if_neg (hne 4 (by omega)), if_neg (hne 5 (by omega)), if_neg (hne 6 (by omega)), if_neg (hne 7 (by omega)), if_neg (hne 8 (by omega)), if_neg (hne 9 (by omega)), if_neg (hne 10 (by omega)), if_neg (hne 11 (by omega)), if_neg (hne 12 (by omega))]
      · show m_262 75 (nI k) x I (Rc t) (Gc L) = _
        unfold m_262
        rw [s_200, o_b1_s, q_bz, if_pos (nI_in03 hk), j_lit.2.1, j12_lit, s_189i, o_b1_s, q_bz, if_neg hx]
  · refine ⟨NO, I, I, ?_, ?_, SAME_rf, rfl⟩
    · unfold m_142
      rw [r_1_0, k_2, o_g_t, c_96o hs, o_b1_s, if_pos rfl]
    · show m_262 75 s x I (Rc t) (Gc L) = _
      unfold m_262
      rw [s_200, o_b1_s, q_bz, if_neg hs]
