/-! Calls greedy, arrive. -/
theorem S_gt {V p : Nat → Int32} {n r : Nat} (hW : WF n r V) (hp : ∀ e, e < 8 → -1000 ≤ p e ∧ p e ≤ 1000) : ∀ x, x ∈ BL V → ¬ V x + prs p x ≤ NO := fun x hx h => by
  have hx2 := BL_mem.1 hx
  obtain ⟨-, -, h1, h2⟩ := hW.2.2.2.2.1 x hx2.1 hx2.2
  have h3 := prs_gt hp x
  rw [Int32.le_iff_toInt_le] at h1 h2 h
  rw [show (-1000000 : Int32).toInt = -1000000 from by decide] at h1
  rw [show (1000000 : Int32).toInt = 1000000 from by decide] at h2
  rw [show NO.toInt = -2147483648 from by decide, Int32.toInt_add] at h
  unfold Int.bmod at h
  dsimp only at h
  split at h <;> omega
theorem PR_b {I : ai_I} (h : ST I) : ∀ e, e < 8 → -1000 ≤ RP I e ∧ RP I e ≤ 1000 := fun e he => by
  obtain ⟨h1, h2, h3⟩ := h.2.2.1 e he
  have e2 : RP I e = I 4 e := h1.symm
  rw [e2]
  exact ⟨h2, h3⟩
theorem SAME_o21 {I J K : ai_I} (h : ∀ c, ¬ c = 57 → ¬ c = 58 → J c = I c) (h2 : o21 J K) : SAME I K := ⟨fun c hc => by rw [h2.1 c (by omega), h c (by omega) (by omega)], fun j _ => by rw [h2.1 76 (by decide), h 76 (by decide) (by decide)], by rw [h2.1 77 (by decide), h 77 (by decide) (by decide)], by rw [h2.2 1 (by decide), h 75 (by decide) (by decide)], by rw [h2.2 3 (by decide), h 75 (by decide) (by decide)], by rw [h2.1 1999 (by decide), h 1999 (by decide) (by decide)]⟩
theorem op_greedy {I : ai_I} {t L : Nat} (h : ST I) (s x y : Int32) : OPc I (m_150 1 s x y I (Rc t) (Gc L)) (fun I1 => m_270 75 s x y I1 (Rc t) (Gc L)) := by
  rcases x_cases s (n := 3) (by decide) with ⟨k, hk, rfl⟩ | hs
  · obtain ⟨n, r, I1, hW, hC, hI, hIr, f1, f2, f3, f4, f5, f6, f7, f8⟩ := c_fill (t := t) (L := L) h (show k < 4 by omega)
    have hv := vc_s (s := k) (by omega)
    have hS := S_gt hW (PR_b h)
    have ec : m_150 1 (nI k) x y I (Rc t) (Gc L) = o_b1 (m_122 (6 + 4 * k) x I (Rc t) (Gc L)) (fun r_18 => if r_18 = 0 then (some ((-2147483648 : Int32), I)) else o_b1 (m_106 57 (6 + 4 * k) x I1 (Rc t) (Gc L)) (fun I_50 => if y = (0 : Int32) then (some (I_50 57 2, I_50)) else (if y = (1 : Int32) then (o_g (o_in (Gc L) 13 58 (I_50 57 2)) (some (I_50 58 (I_50 57 2).toNatClampNeg, I_50))) else (if y = (2 : Int32) then (some (I_50 57 3, I_50)) else (if y = (3 : Int32) then (o_b1 (m_105 57 (I_50 57 2) I_50 (Rc t) (Gc L)) (fun r_127 => o_b1 (m_182 r_127) (fun r_130 => some (r_130, I_50)))) else (some ((-2147483648 : Int32), I_50))))))) := by
      unfold m_150
      rw [r_1_0, k_2, o_g_t, c_96 (by omega), o_b1_s, if_neg (by omega), v_kd hv, o_g_t, r_1_8, k_57, o_g_t, r_2_1, f1, o_b1_s, r_57_0]
    rw [ec]
    rcases x_cases x (n := 255) (by decide) with ⟨a, ha, rfl⟩ | hx
    · by_cases hV : FV I k a ≠ NO
      · have haB : a ∈ BL (FV I k) := BL_mem.2 ⟨by omega, hV⟩
        obtain ⟨J, j1, j2, j3, g, b, hg, hb, j4, j5, hgl⟩ := c_106 (t := t) (L := L) hv hW f3 f6 hS haB
        have hb2 := BL_mem.1 hb
        have hJc : ∀ c, ¬ c = 57 → ¬ c = 58 → J c = I c := fun c c1 c2 => (j2 c c1).trans (f8 c c1 c2)
        have hF : FV J k = FV I k := by
          unfold FV
          rw [hJc 76 (by decide) (by decide)]
        have hR : RP J = RP I := by
          unfold RP
          rw [hJc 76 (by decide) (by decide)]
        rw [c_122 hv hW hC (by omega), o_b1_s, q_bz, if_pos hV, j1, o_b1_s, j4, j5]
        have hbS : J 58 b = FV I k b + prs (RP I) b := by rw [j2 58 (by decide), f6 b hb2.1, if_pos hb2.2]
        have hgr : J 57 1 = gs (fun x => FV I k x + prs (RP I) x) (BL (FV I k)) := by rw [j3 1 (by decide) (by decide), f7]
        obtain ⟨l0, l1, l2, l3, -⟩ := lits
        rcases x_cases y (n := 3) (by decide) with ⟨w, hw, rfl⟩ | hy
        · obtain ⟨q, q1, q2, g2, b2, hg2, hb3, q3, q4, -⟩ := s_269 (I := J) (t := t) (L := L) (s := k) (n := n) (r := r) (a := a) (by omega) (by rw [hF]; exact hW) (by rw [hF]; exact haB)
          rw [hF, hR] at hg2
          obtain ⟨rfl, rfl⟩ := grd_one _ _ _ _ _ hg hg2
          have hF2 : FV q.2 k = FV I k := (o21_FV q2 k).trans hF
          have hR2 : RP q.2 = RP I := (o21_RP q2).trans hR
          refine ⟨if w = 0 then nI b else if w = 1 then FV I k b + prs (RP I) b else if w = 2 then nI g else bz (FV I k b + prs (RP I) b = gs (fun x => FV I k x + prs (RP I) x) (BL (FV I k))), J, q.2, ?_, ?_, SAME_o21 hJc q2, hJc 1999 (by decide) (by decide)⟩
          · have hw4 : w = 0 ∨ w = 1 ∨ w = 2 ∨ w = 3 := by omega
            rw [g_58 hb2.1, o_g_t, i_cl (by omega), c_105 hb2.1, o_b1_s, c_182, o_b1_s, hbS, hgr]
            rcases hw4 with rfl | rfl | rfl | rfl
            · rw [if_pos (by decide), if_pos rfl]
            · rw [if_neg (by decide), if_pos (by decide), if_neg (by decide), if_pos rfl]
            · rw [if_neg (by decide), if_neg (by decide), if_pos (by decide), if_neg (by decide), if_neg (by decide), if_pos rfl]
            · rw [if_neg (by decide), if_neg (by decide), if_neg (by decide), if_pos (by decide), if_neg (by decide), if_neg (by decide), if_neg (by decide)]
          · show m_270 75 (nI k) (nI a) (nI w) J (Rc t) (Gc L) = _
            have hw4 : w = 0 ∨ w = 1 ∨ w = 2 ∨ w = 3 := by omega
            unfold m_270
            rw [s_200, o_b1_s, q_bz, if_pos (nI_in03 hk), j_lit.2.1, j_lit.2.2, s_199 (by omega) (by omega), o_b1_s, q_bz, hF, if_pos hV, s_189i, o_b1_s, q_bz, if_pos ⟨nI_le (by omega) (by omega), nI_le hw (by decide)⟩, q1, o_b2, q3, s_265 (by omega) hb2.1, o_b1_s, o_b1_s, s_266 (by omega), o_b1_s, q4, hF2, hR2]
            rcases hw4 with rfl | rfl | rfl | rfl
            · rw [if_pos (by decide), if_pos rfl]
            · rw [if_neg (by decide), if_pos (by decide), if_neg (by decide), if_pos rfl]
            · rw [if_neg (by decide), if_neg (by decide), if_pos (by decide), if_neg (by decide), if_neg (by decide), if_pos rfl]
            · rw [if_neg (show ¬ nI 3 = 0 by decide), if_neg (show ¬ nI 3 = nI 1 by decide), if_neg (show ¬ nI 3 = nI 2 by decide), if_neg (show ¬ 3 = 0 by decide), if_neg (show ¬ 3 = 1 by decide), if_neg (show ¬ 3 = 2 by decide)]
              by_cases e : FV I k b + prs (RP I) b = gs (fun x => FV I k x + prs (RP I) x) (BL (FV I k))
              · rw [if_pos e, bz_t e]
              · rw [if_neg e, bz_f e]
        · have hne : ∀ j, j ≤ 3 → ¬ y = nI j := fun j hj h9 => hy (by rw [h9]; exact ⟨nI_le (by omega) (by omega), nI_le hj (by decide)⟩)
          refine ⟨-2147483648, J, J, ?_, ?_, SAME_o21 hJc ⟨fun _ _ => rfl, fun _ _ => rfl⟩, hJc 1999 (by decide) (by decide)⟩
          · rw [l0, l1, l2, l3, if_neg (hne 0 (by omega)), if_neg (hne 1 (by omega)), if_neg (hne 2 (by omega)), if_neg (hne 3 (by omega))]
          · show m_270 75 (nI k) (nI a) y J (Rc t) (Gc L) = _
            unfold m_270
            rw [s_200, o_b1_s, q_bz, if_pos (nI_in03 hk), j_lit.2.1, j_lit.2.2, s_199 (by omega) (by omega), o_b1_s, q_bz, hF, if_pos hV, s_189i, o_b1_s, q_bz, if_neg hy]
      · rw [c_122 hv hW hC (by omega), o_b1_s, q_bz, if_neg hV]
        refine ⟨_, I, I, rfl, ?_, SAME_rf, rfl⟩
        show m_270 75 (nI k) (nI a) y I (Rc t) (Gc L) = _
        unfold m_270
        rw [s_200, o_b1_s, q_bz, if_pos (nI_in03 hk), j_lit.2.1, j_lit.2.2, s_199 (by omega) (by omega), o_b1_s, q_bz, if_neg hV]
    · rw [c_122o hW hC hx, o_b1_s, q_00]
      refine ⟨_, I, I, rfl, ?_, SAME_rf, rfl⟩
      show m_270 75 (nI k) x y I (Rc t) (Gc L) = _
      unfold m_270
      rw [s_200, o_b1_s, q_bz, if_pos (nI_in03 hk), j_lit.2.1, j_lit.2.2, s_199o hx, o_b1_s, q_00]
  · refine ⟨-2147483648, I, I, ?_, ?_, SAME_rf, rfl⟩
    · unfold m_150
      rw [r_1_0, k_2, o_g_t, c_96o hs, o_b1_s, if_pos rfl]
    · show m_270 75 s x y I (Rc t) (Gc L) = _
      unfold m_270
      rw [s_200, o_b1_s, q_bz, if_neg hs]
noncomputable def cl (p : Nat → Prop) (x : Nat) : Bool := @decide (p x) (Classical.propDecidable _)
theorem cl_t {p : Nat → Prop} {x : Nat} (h : p x) : cl p x = true := @decide_eq_true _ (Classical.propDecidable _) h
theorem cl_f {p : Nat → Prop} {x : Nat} (h : ¬ p x) : cl p x = false := @decide_eq_false _ (Classical.propDecidable _) h
theorem fln_t {p : Nat → Prop} {k : Nat} (h : p k) : fln (cl p) (k + 1) = fln (cl p) k + 1 := by rw [fln_succ, if_pos (cl_t h)]
theorem fln_f {p : Nat → Prop} {k : Nat} (h : ¬ p k) : fln (cl p) (k + 1) = fln (cl p) k := by
  rw [fln_succ, cl_f h]
  rfl
/-- greedy comes from here to a greatest one -/
def arv (V S : Nat → Int32) (g : Int32) (a : Nat) : Prop := a ∈ BL V ∧ ∃ k b, grd V S k a b ∧ S b = g
theorem op_arrive {I : ai_I} {t L : Nat} (h : ST I) (s : Int32) : OPc I (m_151 1 s I (Rc t) (Gc L)) (fun I1 => m_271 75 s I1 (Rc t) (Gc L)) := by
  rcases x_cases s (n := 3) (by decide) with ⟨k, hk, rfl⟩ | hs
  · obtain ⟨n, r, I1, hW, hC, hI, hIr, f1, f2, f3, f4, f5, f6, f7, f8⟩ := c_fill (t := t) (L := L) h (show k < 4 by omega)
    have hv := vc_s (s := k) (by omega)
    have hl := BL_len hW
    have hS := S_gt hW (PR_b h)
    have hc : wp (m_151 1 (nI k) I (Rc t) (Gc L)) (fun q => q.1 = nI (fln (cl (arv (FV I k) (fun x => FV I k x + prs (RP I) x) (gs (fun x => FV I k x + prs (RP I) x) (BL (FV I k))))) 256) ∧ ot I1 q.2 57) := by
      unfold m_151
      rw [r_1_0, k_2, o_g_t, c_96 (by omega), o_b1_s, if_neg (by omega), r_1_8, k_57, o_g_t, r_2_1, f1, o_b1_s]
      refine wp_s1 (wp_lpB (FV I k) (fun p (s : Nat × ai_I) => (nI s.1, nI p, s.2)) (fun j s => s.1 = fln (cl (arv (FV I k) (fun x => FV I k x + prs (RP I) x) (gs (fun x => FV I k x + prs (RP I) x) (BL (FV I k))))) j ∧ ot I1 s.2 57 ∧ ∀ j, ¬ j = 2 → ¬ j = 3 → s.2 57 j = I1 57 j) (x0 := (0, I1)) hl ⟨rfl, fun _ _ => rfl, fun _ _ _ => rfl⟩ ?_ ?_ ?_)
      · rintro j ⟨m, J⟩ hj hV ⟨h1, h2, h3⟩
        refine ⟨?_, h2, h3⟩
        rw [fln_f (fun h9 => (BL_mem.1 h9.1).2 hV)]
        exact h1
      · rintro p ⟨m, J⟩ hp ⟨h1, h2, h3⟩
        dsimp only at h1 h2 h3
        have hCJ : CS J (6 + 4 * k) n r (FV I k) := CS_cong (fun _ _ => rfl) (h2 _ (by omega)) (h2 _ (by omega)) (h2 _ (by omega)) (h2 _ (by omega)) f3
        have hTJ : TB J (FV I k) (fun x => FV I k x + prs (RP I) x) := fun x hx => by rw [h2 58 (by decide)]; exact f6 x hx
        have hb := BL_at hp
        simp (disch := omega) only [if_pos, if_neg, o_b1_s, o_b2_s, o_b3_s, o_b4_s, o_s1_s, o_s2_l, o_s2_r, o_g_t, i_add, i_mul, i_sub, i_and, i_or, i_xor, i_sd, i_shl, Nat.one_mul, i_eq, i_lt, i_le, i_n0, i_0le, i_e0, i_0lt, i_le0, i_cl, bz_0, wp_s, lq_l, lq_r, if_true, if_false, ite_not, true_and, and_true, m_151_b35, v_kd hv, hCJ.2.2.1, v_rb hv, v_gb hv, hCJ.2.2.2.2.2, r_1_8]
        refine wp_b1 (wp_mono (c_106 (t := t) (L := L) hv hW hCJ hTJ hS (BL_in hp)) ?_)
        rintro K ⟨k1, k2, g, b, hg, hbB, k3, k4, -⟩
        have hb2 := BL_mem.1 hbB
        have hbS : K 58 b = FV I k b + prs (RP I) b := by rw [k1 58 (by decide), h2 58 (by decide), f6 b hb2.1, if_pos hb2.2]
        have hgr : K 57 1 = gs (fun x => FV I k x + prs (RP I) x) (BL (FV I k)) := by rw [k2 1 (by decide) (by decide), h3 1 (by decide) (by decide), f7]
        rw [k3, c_105 hb2.1, o_b1_s, c_182, o_b1_s, hbS, hgr]
        have fr : ot I1 K 57 := fun c hc => (k1 c hc).trans (h2 c hc)
        have fr2 : ∀ j, ¬ j = 2 → ¬ j = 3 → K 57 j = I1 57 j := fun j j1 j2 => (k2 j j1 j2).trans (h3 j j1 j2)
        by_cases e : FV I k b + prs (RP I) b = gs (fun x => FV I k x + prs (RP I) x) (BL (FV I k))
        · rw [bz_t e]
          simp (disch := omega) only [o_b1_s, o_b2_s, o_b3_s, o_b4_s, o_s1_s, o_s2_l, o_s2_r, o_g_t, i_add, i_mul, i_sub, i_and, i_or, i_xor, i_sd, i_shl, Nat.one_mul, i_eq, i_lt, i_le, i_n0, i_0le, i_e0, i_0lt, i_le0, i_cl, bz_0, wp_s, lq_l, lq_r, if_true, if_false, ite_not, true_and, and_true]
          refine ⟨(m + 1, K), rfl, ?_, fr, fr2⟩
          rw [fln_t ⟨BL_in hp, g, b, hg, e⟩, h1]
        · rw [bz_f e]
          simp (disch := omega) only [o_b1_s, o_b2_s, o_b3_s, o_b4_s, o_s1_s, o_s2_l, o_s2_r, o_g_t, i_add, i_mul, i_sub, i_and, i_or, i_xor, i_sd, i_shl, Nat.one_mul, i_eq, i_lt, i_le, i_n0, i_0le, i_e0, i_0lt, i_le0, i_cl, bz_0, wp_s, lq_l, lq_r, if_true, if_false, ite_not, true_and, and_true]
          refine ⟨(m, K), rfl, ?_, fr, fr2⟩
          rw [fln_f (fun h9 => by
            obtain ⟨g2, b2, hg2, e2⟩ := h9.2
            rw [(grd_one _ _ _ _ _ hg hg2).2] at e
            exact e e2), h1]
      · rintro ⟨m, J⟩ ⟨h1, h2, h3⟩
        dsimp only at h1 h2 h3
        have hCJ : CS J (6 + 4 * k) n r (FV I k) := CS_cong (fun _ _ => rfl) (h2 _ (by omega)) (h2 _ (by omega)) (h2 _ (by omega)) (h2 _ (by omega)) f3
        simp (disch := omega) only [if_pos, if_neg, o_b1_s, o_b2_s, o_b3_s, o_b4_s, o_s1_s, o_s2_l, o_s2_r, o_g_t, i_add, i_mul, i_sub, i_and, i_or, i_xor, i_sd, i_shl, Nat.one_mul, i_eq, i_lt, i_le, i_n0, i_0le, i_e0, i_0lt, i_le0, i_cl, bz_0, wp_s, lq_l, lq_r, if_true, if_false, ite_not, true_and, and_true, m_151_b35, v_kd hv, hCJ.2.2.1, m_151_x35_85]
        exact ⟨by rw [h1], h2⟩
    obtain ⟨q, q1, q2, q3⟩ := hc
    have hJc : ∀ c, ¬ c = 57 → ¬ c = 58 → q.2 c = I c := fun c c1 c2 => (q3 c c1).trans (f8 c c1 c2)
    have hF : FV q.2 k = FV I k := by
      unfold FV
      rw [hJc 76 (by decide) (by decide)]
    have hR : RP q.2 = RP I := by
      unfold RP
      rw [hJc 76 (by decide) (by decide)]
    have hr : wp (m_271 75 (nI k) q.2 (Rc t) (Gc L)) (fun p => p.1 = nI (fln (cl (arv (FV I k) (fun x => FV I k x + prs (RP I) x) (gs (fun x => FV I k x + prs (RP I) x) (BL (FV I k))))) 256) ∧ o21 q.2 p.2) := by
      unfold m_271
      rw [s_200, o_b1_s, q_bz, if_pos (nI_in03 hk), s_266 (by omega), o_b1_s, hF, hR]
      refine wp_s1 (wp_lp (fun j s => ∃ J, s = (nI (fln (cl (arv (FV I k) (fun x => FV I k x + prs (RP I) x) (gs (fun x => FV I k x + prs (RP I) x) (BL (FV I k))))) j), nI j, J) ∧ o21 q.2 J) 0 256 (Nat.zero_le _) (by omega) ⟨_, rfl, fun _ _ => rfl, fun _ _ => rfl⟩ ?_ ?_)
      · rintro j _ hj ⟨J, rfl, hJ⟩
        have hFJ : FV J k = FV I k := (o21_FV hJ k).trans hF
        have hRJ : RP J = RP I := (o21_RP hJ).trans hR
        simp (disch := omega) only [if_pos, if_neg, o_b1_s, o_b2_s, o_b3_s, o_b4_s, o_s1_s, o_s2_l, o_s2_r, o_g_t, i_add, i_mul, i_sub, i_and, i_or, i_xor, i_sd, i_shl, Nat.one_mul, i_eq, i_lt, i_le, i_n0, i_0le, i_e0, i_0lt, i_le0, i_cl, bz_0, wp_s, lq_l, lq_r, if_true, if_false, ite_not, true_and, and_true, m_271_b20, s_199, hFJ]
        split
        · rename_i c1
          simp (disch := omega) only [o_b1_s, o_b2_s, o_b3_s, o_b4_s, o_s1_s, o_s2_l, o_s2_r, o_g_t, i_add, i_mul, i_sub, i_and, i_or, i_xor, i_sd, i_shl, Nat.one_mul, i_eq, i_lt, i_le, i_n0, i_0le, i_e0, i_0lt, i_le0, i_cl, bz_0, wp_s, lq_l, lq_r, if_true, if_false, ite_not, true_and, and_true]
          exact ⟨J, by rw [fln_f (fun h9 => (BL_mem.1 h9.1).2 c1)], hJ⟩
        · rename_i c1
          have hjB : j ∈ BL (FV I k) := BL_mem.2 ⟨hj, c1⟩
          refine wp_b2 (wp_mono (s_269 (I := J) (t := t) (L := L) (s := k) (n := n) (r := r) (a := j) (by omega) (by rw [hFJ]; exact hW) (by rw [hFJ]; exact hjB)) ?_)
          rintro ⟨x, K⟩ ⟨k1, g, b, hg, hbB, k3, -⟩
          dsimp only at k1 k3
          rw [hFJ, hRJ] at hg
          rw [hFJ] at hbB
          have hb2 := BL_mem.1 hbB
          have hK : o21 q.2 K := ⟨fun c hc => (k1.1 c hc).trans (hJ.1 c hc), fun i hi => (k1.2 i hi).trans (hJ.2 i hi)⟩
          show wp (o_b1 (m_265 75 (nI k) x K (Rc t) (Gc L)) _) _
          rw [k3, s_265 (by omega) hb2.1, o_b1_s, (o21_FV k1 k).trans hFJ, (o21_RP k1).trans hRJ]
          by_cases e : FV I k b + prs (RP I) b = gs (fun x => FV I k x + prs (RP I) x) (BL (FV I k))
          · rw [if_pos e]
            simp (disch := omega) only [o_b1_s, o_b2_s, o_b3_s, o_b4_s, o_s1_s, o_s2_l, o_s2_r, o_g_t, i_add, i_mul, i_sub, i_and, i_or, i_xor, i_sd, i_shl, Nat.one_mul, i_eq, i_lt, i_le, i_n0, i_0le, i_e0, i_0lt, i_le0, i_cl, bz_0, wp_s, lq_l, lq_r, if_true, if_false, ite_not, true_and, and_true]
            refine ⟨K, ?_, hK⟩
            rw [fln_t ⟨hjB, g, b, hg, e⟩]
          · rw [if_neg e]
            simp (disch := omega) only [o_b1_s, o_b2_s, o_b3_s, o_b4_s, o_s1_s, o_s2_l, o_s2_r, o_g_t, i_add, i_mul, i_sub, i_and, i_or, i_xor, i_sd, i_shl, Nat.one_mul, i_eq, i_lt, i_le, i_n0, i_0le, i_e0, i_0lt, i_le0, i_cl, bz_0, wp_s, lq_l, lq_r, if_true, if_false, ite_not, true_and, and_true]
            refine ⟨K, ?_, hK⟩
            rw [fln_f (fun h9 => by
              obtain ⟨g2, b2, hg2, e2⟩ := h9.2
              rw [(grd_one _ _ _ _ _ hg hg2).2] at e
              exact e e2)]
      · rintro _ ⟨J, rfl, hJ⟩
        simp (disch := omega) only [if_pos, if_neg, o_b1_s, o_b2_s, o_b3_s, o_b4_s, o_s1_s, o_s2_l, o_s2_r, o_g_t, i_add, i_mul, i_sub, i_and, i_or, i_xor, i_sd, i_shl, Nat.one_mul, i_eq, i_lt, i_le, i_n0, i_0le, i_e0, i_0lt, i_le0, i_cl, bz_0, wp_s, lq_l, lq_r, if_true, if_false, ite_not, true_and, and_true, m_271_b20, m_271_x20_64]
        exact hJ
    obtain ⟨p, p1, p2, p3⟩ := hr
    refine ⟨q.1, q.2, p.2, by rw [q1], ?_, SAME_o21 hJc p3, hJc 1999 (by decide) (by decide)⟩
    show m_271 75 (nI k) q.2 (Rc t) (Gc L) = _
    rw [p1, q2, ← p2]
  · refine ⟨-1, I, I, ?_, ?_, SAME_rf, rfl⟩
    · unfold m_151
      rw [r_1_0, k_2, o_g_t, c_96o hs, o_b1_s, if_pos rfl]
    · show m_271 75 s I (Rc t) (Gc L) = _
      unfold m_271
      rw [s_200, o_b1_s, q_bz, if_neg hs]
