/-! What the class answers: greedy, arrive, initial, space, failing, spanned, price, count. -/
section
variable {I : ai_I} {t s : Nat} {L : ai_G} {A : SV}
/-- sums of bases, by prices -/
def smv (V p : Nat → Int32) : Nat → Int32 := fun x => V x + prs p x
theorem k_fill (h : KA I A) (hs : s < 4) : ∃ I1, m_72 57 (6 + 4 * s) 4 I (Rc t) (Gc L) = some I1 ∧ CS I1 (6 + 4 * s) (A.1 s) (A.2.1 s) (A.2.2.1 s) ∧ TB I1 (A.2.2.1 s) (smv (A.2.2.1 s) A.2.2.2) ∧ I1 57 1 = gs (smv (A.2.2.1 s) A.2.2.2) (BL (A.2.2.1 s)) ∧ (∀ c, ¬ c = 57 → ¬ c = 58 → I1 c = I c) ∧ SM I I1 := by
  obtain ⟨hW, hC⟩ := KA_s h hs
  have hpr : prs (I 4) = prs A.2.2.2 := funext (fun x => prs_cong (fun e he => (KA_p h e he).1) x)
  obtain ⟨I1, h1, h2, h3, h4⟩ := c_104 (t := t) (L := L) (p := 4) (vc_s hs) hW hC rfl rfl (by decide)
  rw [hpr] at h3 h4
  exact ⟨I1, h1, CS_cong (fun _ _ => rfl) (h2 _ (by omega) (by omega)) (h2 _ (by omega) (by omega)) (h2 _ (by omega) (by omega)) (h2 _ (by omega) (by omega)) hC, h3, h4, h2, fun c hc => h2 c (by omega) (by omega)⟩
theorem k_S (h : KA I A) (hs : s < 4) : ∀ x, x ∈ BL (A.2.2.1 s) → ¬ smv (A.2.2.1 s) A.2.2.2 x ≤ NO := S_gt (KA_s h hs).1 (fun e he => (KA_p h e he).2)
theorem k_greedy {a w : Nat} (h : KA I A) (hs : s < 4) (ha : a ∈ BL (A.2.2.1 s)) (hw : w ≤ 3) : wp (m_105 1 (nI s) (nI a) (nI w) I (Rc t) (Gc L)) (fun q => SM I q.2 ∧ ∃ g b, grd (A.2.2.1 s) (smv (A.2.2.1 s) A.2.2.2) g a b ∧ b ∈ BL (A.2.2.1 s) ∧ g < 256 ∧ q.1 = (if w = 0 then nI b else if w = 1 then smv (A.2.2.1 s) A.2.2.2 b else if w = 2 then nI g else bz (smv (A.2.2.1 s) A.2.2.2 b = gs (smv (A.2.2.1 s) A.2.2.2) (BL (A.2.2.1 s))))) := by
  obtain ⟨hW, hC⟩ := KA_s h hs
  have hv := vc_s hs
  obtain ⟨I1, f1, f2, f3, f4, f5, f6⟩ := k_fill (t := t) (L := L) h hs
  have ha2 := BL_mem.1 ha
  unfold m_105
  rw [r_1_0, k_2, o_g_t, c_96 hs, o_b1_s, if_neg (by omega), v_kd hv, o_g_t, c_122 hv hW hC ha2.1, o_b1_s, q_bz, if_pos ha2.2, r_1_8, k_57, o_g_t, r_2_1, f1, o_b1_s, r_57_0]
  refine wp_b1 (wp_mono (c_106 (t := t) (L := L) hv hW f2 f3 (k_S h hs) ha) ?_)
  rintro J ⟨j2, j3, g, b, hg, hb, j4, j5, hgl⟩
  have hb2 := BL_mem.1 hb
  have hS : SM I J := fun c hc => (j2 c (by omega)).trans (f6 c hc)
  have hbS : J 58 b = smv (A.2.2.1 s) A.2.2.2 b := by rw [j2 58 (by decide), f3 b hb2.1, if_pos hb2.2]
  have hgr : J 57 1 = gs (smv (A.2.2.1 s) A.2.2.2) (BL (A.2.2.1 s)) := by rw [j3 1 (by decide) (by decide), f4]
  rw [j4, j5, g_58 hb2.1, o_g_t, i_cl (by omega), c_105 hb2.1, o_b1_s, c_182, o_b1_s, hbS, hgr]
  have hw4 : w = 0 ∨ w = 1 ∨ w = 2 ∨ w = 3 := by omega
  rcases hw4 with rfl | rfl | rfl | rfl
  · rw [if_pos (by decide), wp_s]
    exact ⟨hS, g, b, hg, hb, hgl, by rw [if_pos rfl]⟩
  · rw [if_neg (by decide), if_pos (by decide), wp_s]
    exact ⟨hS, g, b, hg, hb, hgl, by rw [if_neg (by decide), if_pos rfl]⟩
  · rw [if_neg (by decide), if_neg (by decide), if_pos (by decide), wp_s]
    exact ⟨hS, g, b, hg, hb, hgl, by rw [if_neg (by decide), if_neg (by decide), if_pos rfl]⟩
  · rw [if_neg (by decide), if_neg (by decide), if_neg (by decide), if_pos (by decide), wp_s]
    exact ⟨hS, g, b, hg, hb, hgl, by rw [if_neg (by decide), if_neg (by decide), if_neg (by decide)]⟩
theorem k_greedy_0 {y : Int32} (h : KA I A) (hs : s < 4) : m_105 1 (nI s) (nI 0) y I (Rc t) (Gc L) = some (NO, I) := by
  obtain ⟨hW, hC⟩ := KA_s h hs
  have hv := vc_s hs
  unfold m_105
  rw [r_1_0, k_2, o_g_t, c_96 hs, o_b1_s, if_neg (by omega), v_kd hv, o_g_t, c_122 hv hW hC (by decide), o_b1_s, q_bz, if_neg (fun h9 => h9 (k_b0 h hs))]
theorem k_arrive (h : KA I A) (hs : s < 4) : wp (m_106 1 (nI s) I (Rc t) (Gc L)) (fun q => SM I q.2 ∧ q.1 = nI (fln (cl (arv (A.2.2.1 s) (smv (A.2.2.1 s) A.2.2.2) (gs (smv (A.2.2.1 s) A.2.2.2) (BL (A.2.2.1 s))))) 256)) := by
  obtain ⟨hW, hC⟩ := KA_s h hs
  have hv := vc_s hs
  have hl := BL_len hW
  have hS := k_S h hs
  obtain ⟨I1, f1, f3, f6, f7, f8, f9⟩ := k_fill (t := t) (L := L) h hs
  generalize hV : A.2.2.1 s = V at *
  generalize hSS : smv V A.2.2.2 = S at *
  unfold m_106
  rw [r_1_0, k_2, o_g_t, c_96 hs, o_b1_s, if_neg (by omega), r_1_8, k_57, o_g_t, r_2_1, f1, o_b1_s]
  refine wp_s1 (wp_lpB V (fun p (s : Nat × ai_I) => (nI s.1, nI p, s.2)) (fun j s => s.1 = fln (cl (arv V S (gs S (BL V)))) j ∧ ot I1 s.2 57 ∧ ∀ j, ¬ j = 2 → ¬ j = 3 → s.2 57 j = I1 57 j) (x0 := (0, I1)) hl ⟨rfl, fun _ _ => rfl, fun _ _ _ => rfl⟩ ?_ ?_ ?_)
  · rintro j ⟨m, J⟩ hj hV ⟨h1, h2, h3⟩
    refine ⟨?_, h2, h3⟩
    rw [fln_f (fun h9 => (BL_mem.1 h9.1).2 hV)]
    exact h1
  · rintro p ⟨m, J⟩ hp ⟨h1, h2, h3⟩
    dsimp only at h1 h2 h3
    have hCJ : CS J (6 + 4 * s) (A.1 s) (A.2.1 s) V := CS_cong (fun _ _ => rfl) (h2 _ (by omega)) (h2 _ (by omega)) (h2 _ (by omega)) (h2 _ (by omega)) f3
    have hTJ : TB J V S := fun x hx => by rw [h2 58 (by decide)]; exact f6 x hx
    have hb := BL_at hp
    simp (disch := omega) only [if_pos, if_neg, o_b1_s, o_b2_s, o_b3_s, o_b4_s, o_s1_s, o_s2_l, o_s2_r, o_g_t, i_add, i_mul, i_sub, i_and, i_or, i_xor, i_sd, i_shl, Nat.one_mul, i_eq, i_lt, i_le, i_n0, i_0le, i_e0, i_0lt, i_le0, i_cl, bz_0, wp_s, lq_l, lq_r, if_true, if_false, ite_not, true_and, and_true, m_106_b35, v_kd hv, hCJ.2.2.1, v_rb hv, v_gb hv, hCJ.2.2.2.2.2, r_1_8]
    refine wp_b1 (wp_mono (c_106 (t := t) (L := L) hv hW hCJ hTJ hS (BL_in hp)) ?_)
    rintro K ⟨k1, k2, g, b, hg, hbB, k3, k4, -⟩
    have hb2 := BL_mem.1 hbB
    have hbS : K 58 b = S b := by rw [k1 58 (by decide), h2 58 (by decide), f6 b hb2.1, if_pos hb2.2]
    have hgr : K 57 1 = gs S (BL V) := by rw [k2 1 (by decide) (by decide), h3 1 (by decide) (by decide), f7]
    rw [k3, c_105 hb2.1, o_b1_s, c_182, o_b1_s, hbS, hgr]
    have fr : ot I1 K 57 := fun c hc => (k1 c hc).trans (h2 c hc)
    have fr2 : ∀ j, ¬ j = 2 → ¬ j = 3 → K 57 j = I1 57 j := fun j j1 j2 => (k2 j j1 j2).trans (h3 j j1 j2)
    by_cases e : S b = gs S (BL V)
    · rw [bz_t e]
      simp (disch := omega) only [o_b1_s, o_b2_s, o_b3_s, o_b4_s, o_s1_s, o_s2_l, o_s2_r, o_g_t, i_add, i_mul, i_sub, i_and, i_or, i_xor, i_sd, i_shl, Nat.one_mul, i_eq, i_lt, i_le, i_n0, i_0le, i_e0, i_0lt, i_le0, i_cl, bz_0, wp_s, lq_l, lq_r, if_true, if_false, ite_not, true_and, and_true]
      refine ⟨(m + 1, K), rfl, ?_, fr, fr2⟩
      rw [fln_t ⟨BL_in hp, g, b, hg, e⟩, h1]
    · rw [bz_f e]
      simp (disch := omega) only [o_b1_s, o_b2_s, o_b3_s, o_b4_s, o_s1_s, o_s2_l, o_s2_r, o_g_t, i_add, i_mul, i_sub, i_and, i_or, i_xor, i_sd, i_shl, Nat.one_mul, i_eq, i_lt, i_le, i_n0, i_0le, i_e0, i_0lt, i_le0, i_cl, bz_0, wp_s, lq_l, lq_r, if_true, if_false, ite_not, true_and, and_true]
      refine ⟨(m, K), rfl, ?_, fr, fr2⟩
      rw [fln_f (fun h9 => by
        obtain ⟨g2, b2, hg2, e2⟩ := h9.2
        rw [(grd_one _ _ _ _ _ hg hg2).2] at e
        exact e e2), h1]
  · rintro ⟨m, J⟩ ⟨h1, h2, h3⟩
    dsimp only at h1 h2 h3
    have hCJ : CS J (6 + 4 * s) (A.1 s) (A.2.1 s) V := CS_cong (fun _ _ => rfl) (h2 _ (by omega)) (h2 _ (by omega)) (h2 _ (by omega)) (h2 _ (by omega)) f3
    simp (disch := omega) only [if_pos, if_neg, o_b1_s, o_b2_s, o_b3_s, o_b4_s, o_s1_s, o_s2_l, o_s2_r, o_g_t, i_add, i_mul, i_sub, i_and, i_or, i_xor, i_sd, i_shl, Nat.one_mul, i_eq, i_lt, i_le, i_n0, i_0le, i_e0, i_0lt, i_le0, i_cl, bz_0, wp_s, lq_l, lq_r, if_true, if_false, ite_not, true_and, and_true, m_106_b35, v_kd hv, hCJ.2.2.1, m_106_x35_85]
    exact ⟨fun c hc => (h2 c (by omega)).trans (f9 c hc), by rw [h1]⟩
theorem k_arrive_s : m_106 1 (nI 4) I (Rc t) (Gc L) = some (-1, I) := by
  unfold m_106
  rw [r_1_0, k_2, o_g_t, c_96o (by decide), o_b1_s, if_pos rfl]
theorem k_ini_e {x : Int32} {I1 : ai_I} (hs : s < 4) (f1 : m_72 57 (6 + 4 * s) 4 I (Rc t) (Gc L) = some I1) : m_107 1 (nI s) x I (Rc t) (Gc L) = (if x < nI 10 then (if x = (0 : Int32) then (o_b1 (m_76 57 (6 + 4 * s) I1 (Rc t) (Gc L)) (fun r_81 => some (r_81, I1))) else (if x = (1 : Int32) then (some (I1 57 1, I1)) else (if x = (2 : Int32) then (o_b2 (m_25 55 (6 + 4 * s) 57 I1 (Rc t) (Gc L)) (fun r_107 I_107 => o_b2 (m_21 55 (6 + 4 * s) r_107 (nI 0) I_107 (Rc t) (Gc L)) (fun r_111 I_111 => if r_111 = 0 then (m_107_j122 I_111 (nI 1)) else (m_107_j122 I_111 (nI 0))))) else (some ((-2147483648 : Int32), I1))))) else (o_b1 (m_77 57 (6 + 4 * s) (x - nI 10) I1 (Rc t) (Gc L)) (fun r_46 => some (r_46, I1)))) := by
  unfold m_107
  rw [r_1_0, k_2, o_g_t, c_96 hs, o_b1_s, if_neg (by omega), r_1_8, k_57, o_g_t, r_2_1, f1, o_b1_s, r_1_7, k_55, o_g_t]
theorem k_ini0 (h : KA I A) (hs : s < 4) : wp (m_107 1 (nI s) (nI 0) I (Rc t) (Gc L)) (fun q => SM I q.2 ∧ q.1 = nI (fln (inq (A.2.2.1 s) (smv (A.2.2.1 s) A.2.2.2) (gs (smv (A.2.2.1 s) A.2.2.2) (BL (A.2.2.1 s)))) 256)) := by
  obtain ⟨hW, hC⟩ := KA_s h hs
  obtain ⟨I1, f1, f3, f6, f7, f8, f9⟩ := k_fill (t := t) (L := L) h hs
  rw [k_ini_e hs f1, if_pos (by decide), if_pos (by decide)]
  refine wp_b1 (wp_mono (c_108 (t := t) (L := L) (g := gs (smv (A.2.2.1 s) A.2.2.2) (BL (A.2.2.1 s))) (vc_s hs) hW f3 f6 f7) ?_)
  rintro x rfl
  exact ⟨_, rfl, f9, rfl⟩
theorem k_ini1 (h : KA I A) (hs : s < 4) : wp (m_107 1 (nI s) (nI 1) I (Rc t) (Gc L)) (fun q => SM I q.2 ∧ q.1 = gs (smv (A.2.2.1 s) A.2.2.2) (BL (A.2.2.1 s))) := by
  obtain ⟨I1, f1, f3, f6, f7, f8, f9⟩ := k_fill (t := t) (L := L) h hs
  rw [k_ini_e hs f1, if_pos (by decide), if_neg (by decide), if_pos (by decide)]
  exact ⟨_, rfl, f9, f7⟩
theorem k_ini2 (h : KA I A) (hs : s < 4) : wp (m_107 1 (nI s) (nI 2) I (Rc t) (Gc L)) (fun q => SM I q.2 ∧ q.1 = lw1 (irow (A.2.2.1 s) (smv (A.2.2.1 s) A.2.2.2) (gs (smv (A.2.2.1 s) A.2.2.2) (BL (A.2.2.1 s))))) := by
  obtain ⟨hW, hC⟩ := KA_s h hs
  have hv := vc_s hs
  obtain ⟨I1, f1, f3, f6, f7, f8, f9⟩ := k_fill (t := t) (L := L) h hs
  rw [k_ini_e hs f1, if_pos (by decide), if_neg (by decide), if_neg (by decide), if_pos (by decide)]
  refine wp_b2 (wp_mono (c_36 (t := t) (L := L) (g := gs (smv (A.2.2.1 s) A.2.2.2) (BL (A.2.2.1 s))) hv hW f3 f6 f7) ?_)
  rintro ⟨x, J⟩ ⟨p2, p3, p4⟩
  dsimp only at p2 p3 p4 ⊢
  subst p2
  have hC2 : CS J (6 + 4 * s) (A.1 s) (A.2.1 s) (A.2.2.1 s) := CS_cong (fun _ _ => rfl) (p3 _ (by omega)) (p3 _ (by omega)) (p3 _ (by omega)) (p3 _ (by omega)) f3
  refine wp_b2 (wp_mono (c_32 (t := t) (L := L) (c := 56) (w := 0) hv hW hC2 rfl rfl (by decide) (fun j hj hV => by rw [p4 j hj]; unfold irow; rw [inq_f (Or.inl hV)]; rfl) (by decide)) ?_)
  rintro ⟨x, K⟩ ⟨q2, q3⟩
  dsimp only at q2 q3 ⊢
  have hS : SM I K := fun c hc => (q2 c (by omega)).trans ((p3 c (by omega)).trans (f9 c hc))
  have e2 : lw1 (J 56) = lw1 (irow (A.2.2.1 s) (smv (A.2.2.1 s) A.2.2.2) (gs (smv (A.2.2.1 s) A.2.2.2) (BL (A.2.2.1 s)))) := by
    unfold lw1
    rw [fln_cong 524288 (fun c hc => flt_cong p4 hc)]
  rw [← e2, ← lw1_of q3]
  unfold m_107_j122
  by_cases e : x = 0
  · rw [if_pos e, if_pos e]
    exact ⟨_, rfl, hS, rfl⟩
  · rw [if_neg e, if_neg e]
    exact ⟨_, rfl, hS, rfl⟩
theorem k_ini3 (h : KA I A) (hs : s < 4) : wp (m_107 1 (nI s) (nI 3) I (Rc t) (Gc L)) (fun q => SM I q.2 ∧ q.1 = NO) := by
  obtain ⟨I1, f1, f3, f6, f7, f8, f9⟩ := k_fill (t := t) (L := L) h hs
  rw [k_ini_e hs f1, if_pos (by decide), if_neg (by decide), if_neg (by decide), if_neg (by decide)]
  exact ⟨_, rfl, f9, rfl⟩
theorem k_iniw {w : Nat} (h : KA I A) (hs : s < 4) (hw : w < 1000) : wp (m_107 1 (nI s) (nI (10 + w)) I (Rc t) (Gc L)) (fun q => SM I q.2 ∧ ((∃ b, b < 256 ∧ inq (A.2.2.1 s) (smv (A.2.2.1 s) A.2.2.2) (gs (smv (A.2.2.1 s) A.2.2.2) (BL (A.2.2.1 s))) b = true ∧ fln (inq (A.2.2.1 s) (smv (A.2.2.1 s) A.2.2.2) (gs (smv (A.2.2.1 s) A.2.2.2) (BL (A.2.2.1 s)))) b = w ∧ q.1 = nI b) ∨ (q.1 = -4 ∧ fln (inq (A.2.2.1 s) (smv (A.2.2.1 s) A.2.2.2) (gs (smv (A.2.2.1 s) A.2.2.2) (BL (A.2.2.1 s)))) 256 ≤ w))) := by
  obtain ⟨hW, hC⟩ := KA_s h hs
  obtain ⟨I1, f1, f3, f6, f7, f8, f9⟩ := k_fill (t := t) (L := L) h hs
  rw [k_ini_e hs f1, if_neg (nI_nlt (by omega) (by omega)), i_sub (by omega), Nat.add_sub_cancel_left]
  refine wp_b1 (wp_mono (c_109 (t := t) (L := L) (g := gs (smv (A.2.2.1 s) A.2.2.2) (BL (A.2.2.1 s))) (w := w) (vc_s hs) hW f3 f6 f7 (by omega)) ?_)
  intro x hx
  exact ⟨_, rfl, f9, hx⟩
/-- behind the class's taking of prices as numbers -/
theorem k_take (h : KA I A) (hs : s < 4) : ∃ I1, m_57 59 (6 + 4 * s) 4 I (Rc t) (Gc L) = some I1 ∧ CS I1 (6 + 4 * s) (A.1 s) (A.2.1 s) (A.2.2.1 s) ∧ I1 59 1 = nI (2 ^ A.1 s - 1) ∧ (∀ e, e < 8 → I1 60 e = A.2.2.2 e) ∧ SM I I1 := by
  obtain ⟨hW, hC⟩ := KA_s h hs
  obtain ⟨I1, h1, h2, h3, h4⟩ := c_88 (I := I) (t := t) (L := L) (vc_s hs) hW.2.1 hC.1
  exact ⟨I1, h1, CS_cong (fun _ _ => rfl) (h2 _ (by omega) (by omega)) (h2 _ (by omega) (by omega)) (h2 _ (by omega) (by omega)) (h2 _ (by omega) (by omega)) hC, h3, fun e he => (h4 e he).trans (KA_p h e he).1, fun c hc => h2 c (by omega) (by omega)⟩
theorem k_fail_c (h : KA I A) (hs : s < 4) : wp (m_109 1 (nI s) (-1) I (Rc t) (Gc L)) (fun q => SM I q.2 ∧ q.1 = nI (cnt (flq (A.2.2.1 s) A.2.2.2 (2 ^ A.1 s - 1) (A.2.1 s)) (A.1 s))) := by
  obtain ⟨hW, hC⟩ := KA_s h hs
  have h0 := Nat.two_pow_pos (A.1 s)
  obtain ⟨I1, f1, f2, f3, f4, f5⟩ := k_take (t := t) (L := L) h hs
  unfold m_109
  rw [r_1_0, k_2, o_g_t, c_96 hs, o_b1_s, if_neg (by omega), if_pos (by decide), r_1_9, k_59, o_g_t, r_2_1, f1, o_b1_s, if_pos rfl, c_92 (vc_s hs) hW f2 f3 (by omega), o_b1_s]
  refine ⟨_, rfl, f5, ?_⟩
  unfold cnt
  rw [flq_cong hW.2.1 (fun _ _ => rfl) f4]
theorem k_fail {j : Nat} (h : KA I A) (hs : s < 4) (hj : j < 1000) : wp (m_109 1 (nI s) (nI j) I (Rc t) (Gc L)) (fun q => SM I q.2 ∧ q.1 = nthE ((List.range (2 ^ A.1 s)).filter (flq (A.2.2.1 s) A.2.2.2 (2 ^ A.1 s - 1) (A.2.1 s))) j) := by
  obtain ⟨hW, hC⟩ := KA_s h hs
  have h0 := Nat.two_pow_pos (A.1 s)
  obtain ⟨I1, f1, f2, f3, f4, f5⟩ := k_take (t := t) (L := L) h hs
  have hx : (-1 : Int32) ≤ nI j := Int32.le_trans (show (-1 : Int32) ≤ 0 by decide) (nI_pos' (by omega))
  have hx1 : ¬ nI j = (-1 : Int32) := fun h9 => by
    have h8 := nI_pos' (n := j) (by omega)
    rw [h9] at h8
    exact absurd h8 (by decide)
  unfold m_109
  rw [r_1_0, k_2, o_g_t, c_96 hs, o_b1_s, if_neg (by omega), if_pos hx, r_1_9, k_59, o_g_t, r_2_1, f1, o_b1_s, if_neg hx1, c_91 (vc_s hs) hW f2 f3 (by omega) (by omega), o_b1_s]
  refine ⟨_, rfl, f5, ?_⟩
  rw [flq_cong hW.2.1 (fun _ _ => rfl) f4]
theorem k_fail_2 (hs : s < 4) : m_109 1 (nI s) (-2) I (Rc t) (Gc L) = some (-1, I) := by
  unfold m_109
  rw [r_1_0, k_2, o_g_t, c_96 hs, o_b1_s, if_neg (by omega), if_neg (by decide)]
theorem k_space (h : KA I A) (hs : s < 4) : wp (m_108 1 (nI s) I (Rc t) (Gc L)) (fun q => SM I q.2 ∧ q.1 = bz (cnt (flq (A.2.2.1 s) A.2.2.2 (2 ^ A.1 s - 1) (A.2.1 s)) (A.1 s) = 0)) := by
  obtain ⟨hW, hC⟩ := KA_s h hs
  have h0 := Nat.two_pow_pos (A.1 s)
  obtain ⟨I1, f1, f2, f3, f4, f5⟩ := k_take (t := t) (L := L) h hs
  unfold m_108
  rw [r_1_0, k_2, o_g_t, c_96 hs, o_b1_s, if_neg (by omega), r_1_9, k_59, o_g_t, r_2_1, f1, o_b1_s, c_93 (vc_s hs) hW f2 f3 (by omega), o_b1_s, c_182, o_b1_s]
  refine ⟨_, rfl, f5, ?_⟩
  unfold cnt
  rw [flq_cong hW.2.1 (fun _ _ => rfl) f4]
theorem k_space_s : m_108 1 (nI 4) I (Rc t) (Gc L) = some (-1, I) := by
  unfold m_108
  rw [r_1_0, k_2, o_g_t, c_96o (by decide), o_b1_s, if_pos rfl]
theorem k_span0 (h : KA I A) (hs : s < 4) : m_110 1 (nI s) (nI 0) I (Rc t) (Gc L) = some (nI (fln (pFz (A.2.2.1 s) (A.2.1 s - 1)) (2 ^ A.1 s)), I) := by
  obtain ⟨hW, hC⟩ := KA_s h hs
  have hr := hW.2.2.2.1
  have hr1 := hW.2.2.1
  have hn := hW.2.1
  unfold m_110
  rw [r_1_0, k_2, o_g_t, c_96 hs, o_b1_s, if_neg (by omega), if_neg (by decide), if_pos (by decide), if_pos (by decide), v_kd (vc_s hs), o_g_t, hC.2.1, i_sub (by omega), c_69 (vc_s hs) hW hC (by omega), o_b1_s]
  rfl
theorem k_span1 (h : KA I A) (hs : s < 4) : wp (m_110 1 (nI s) (nI 1) I (Rc t) (Gc L)) (fun q => SM I q.2 ∧ q.1 = nI (fln (spq (A.2.2.1 s) (A.1 s) (A.2.1 s)) (2 ^ A.1 s))) := by
  obtain ⟨hW, hC⟩ := KA_s h hs
  obtain ⟨J, j1, j2⟩ := c_span (t := t) (L := L) hs hW hC
  unfold m_110
  rw [r_1_0, k_2, o_g_t, c_96 hs, o_b1_s, if_neg (by omega), if_neg (by decide), if_pos (by decide), if_neg (by decide), r_1_9, k_59, o_g_t, j1, o_b2_s]
  exact ⟨_, rfl, fun c hc => j2 c (by omega) (by omega), rfl⟩
theorem k_span2 (hs : s < 4) : m_110 1 (nI s) (nI 2) I (Rc t) (Gc L) = some (-1, I) := by
  unfold m_110
  rw [r_1_0, k_2, o_g_t, c_96 hs, o_b1_s, if_neg (by omega), if_neg (by decide), if_neg (by decide)]
theorem k_price {e : Nat} {y : Int32} (he : e < 8) (h1 : (-1000 : Int32) ≤ y) (h2 : y ≤ nI 1000) : m_99 1 (nI e) y I (Rc t) (Gc L) = some (I 4 e, va_up I 4 (va_up (I 4) e y)) := by
  unfold m_99 m_66
  rw [q_n0 (by omega), q_leF (by decide) (by omega), if_neg (Int32.not_lt.2 h1), if_pos h2, r_1_0, k_2, o_g_t, r_2_1, g_4 (by omega), o_g_t, o_b1_s, q_n0 (by omega), q_leF (by decide) (by omega), o_g_t, o_b1_s, i_cl (by omega)]
  rfl
theorem KA_price {e : Nat} {y : Int32} (h : KA I A) (he : e < 8) (h1 : (-1000 : Int32) ≤ y) (h2 : y ≤ nI 1000) : KA (va_up I 4 (va_up (I 4) e y)) (A.1, A.2.1, A.2.2.1, va_up A.2.2.2 e y) := by
  obtain ⟨m, nt, g1, g2, g3, g4, g5, g6⟩ := h
  refine ⟨m, nt, g1, ⟨fun s hs => CS_cong (fun _ _ => rfl) (up_ne (by omega)) (up_ne (by omega)) (up_ne (by omega)) (up_ne (by omega)) (g2.1 s hs), fun i hi => ?_⟩, fun i hi => ?_, g4, by rw [up_ne (by decide)]; exact g5, fun k hk j hj => by rw [up_ne (by decide)]; exact g6 k hk j hj⟩
  · dsimp only
    rw [up_eq]
    by_cases c : i = e
    · rw [c, up_eq, up_eq]
    · rw [up_ne c, up_ne c]
      exact g2.2 i hi
  · dsimp only
    by_cases c : i = e
    · rw [c, up_eq]
      exact ⟨h1, h2⟩
    · rw [up_ne c]
      exact g3 i hi
theorem k_price_8 {y : Int32} : m_99 1 (nI 8) y I (Rc t) (Gc L) = some (NO, I) := by
  unfold m_99
  rw [if_neg (by decide), if_pos (by decide)]
theorem k_price_o : m_99 1 (nI 0) (nI 1001) I (Rc t) (Gc L) = some (NO, I) := by
  unfold m_99
  rw [if_neg (by decide), if_neg (by decide), if_neg (by decide), if_neg (by decide)]
theorem k_count (h : KA I A) : m_111 1 (nI 2) I (Rc t) (Gc L) = some (nI ((((BL (A.2.2.1 0)).length + (BL (A.2.2.1 1)).length) + (BL (A.2.2.1 2)).length) + (BL (A.2.2.1 3)).length)) := by
  have c99 : m_68 2 I (Rc t) (Gc L) = some (nI ((((BL (A.2.2.1 0)).length + (BL (A.2.2.1 1)).length) + (BL (A.2.2.1 2)).length) + (BL (A.2.2.1 3)).length)) := by
    unfold m_68
    refine lp_fd_s1 (fun k a => (nI a, nI k)) (fun k a => a + (BL (A.2.2.1 k)).length) (fun a => nI a) (fun _ _ => True) 4 0 ?_ ?_ trivial (by decide) ?_
    · intro k a hk _
      refine ⟨trivial, ?_⟩
      show m_68_b4 2 I (Rc t) (Gc L) (nI a) (nI k) = _
      obtain ⟨hW, hC⟩ := KA_s h hk
      unfold m_68_b4
      rw [q_leF (by decide) hk, r_2_0, g_3 hk, o_g_t, i_cl (by omega), r_3 hk, v_kd (vc_s hk), o_g_t, hC.2.2.1, i_add, o_b1_s, i_add, o_b1_s]
    · intro a _
      show m_68_b4 2 I (Rc t) (Gc L) (nI a) (nI 4) = _
      unfold m_68_b4
      rw [q_leT (by decide) (Nat.le_refl _)]
    · show some (nI (fd (fun k a => a + (BL (A.2.2.1 k)).length) [0, 1, 2, 3] 0)) = _
      unfold fd fd fd fd fd
      rw [Nat.zero_add]
  unfold m_111
  rw [if_neg (by decide), if_neg (by decide), if_pos (by decide), r_1_0, k_2, o_g_t, c99, o_b1_s]
end
