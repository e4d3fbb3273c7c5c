/-! Calls both, potential. -/
theorem fin_both {I J K : ai_I} (h1 : ∀ c, ¬ c = 61 → ¬ c = 62 → J c = I c) (h2 : ot J K 85) : SAME I K := ⟨fun c hc => by rw [h2 c (by omega), h1 c (by omega) (by omega)], fun i _ => by rw [h2 76 (by decide), h1 76 (by decide) (by decide)], by rw [h2 77 (by decide), h1 77 (by decide) (by decide)], by rw [h2 75 (by decide), h1 75 (by decide) (by decide)], by rw [h2 75 (by decide), h1 75 (by decide) (by decide)], by rw [h2 1999 (by decide), h1 1999 (by decide) (by decide)]⟩
/-- what the class's test of potentials and the reference's tell -/
theorem pot_one {I J : ai_I} {t L k l n r : Nat} (h : ST I) (hk : k < 4) (hl : l < 4) (hW : WF n r (FV I k)) (hW2 : WF n r (FV I l)) (hC : CS I (6 + 4 * k) n r (FV I k)) (hC2 : CS I (6 + 4 * l) n r (FV I l)) (hI : I 76 (258 * k) = nI n) (hJ : CO I J (fbo (FV I k) (FV I l))) : ∃ g M K, m_27 61 (6 + 4 * k) (6 + 4 * l) J (Rc t) (Gc L) = some (nI g, M) ∧ m_285 75 (nI k) (nI l) M (Rc t) (Gc L) = some (nI g, K) ∧ g ≤ 1 ∧ (∀ c, ¬ c = 61 → ¬ c = 62 → M c = I c) ∧ ot M K 85 ∧ (g = 1 → ∀ e, e < 8 → M 62 e = K 85 e) := by
  have hn := hW.2.1
  have hv := vc_s (s := k) hk
  have hw := vc_s (s := l) hl
  obtain ⟨q0, q1, q2, q3⟩ := hJ
  have hR := fbo_R hW hW2
  obtain ⟨r1, r2⟩ := hR
  have hok := fbr_ok (FV I k) (FV I l) 256
  have hle : (fbo (FV I k) (FV I l)).1 ≤ 256 := by rw [r1, hok.1]; exact fln_le _ _
  have hCJ : CS J (6 + 4 * k) n r (FV I k) := CS_cong (fun _ _ => rfl) (q0 _ (by omega)) (q0 _ (by omega)) (q0 _ (by omega)) (q0 _ (by omega)) hC
  have hCJ2 : CS J (6 + 4 * l) n r (FV I l) := CS_cong (fun _ _ => rfl) (q0 _ (by omega)) (q0 _ (by omega)) (q0 _ (by omega)) (q0 _ (by omega)) hC2
  rcases r2 with ⟨e1, e2, e3⟩ | ⟨c, e1, e2, e3, e4, e5⟩
  · have hm : m_27 61 (6 + 4 * k) (6 + 4 * l) J (Rc t) (Gc L) = some (nI 0, J) := by
      unfold m_27
      rw [q1, e2, if_pos (by decide)]
    have hF : FV J k = FV I k ∧ FV J l = FV I l := ⟨by unfold FV; rw [q0 76 (by decide)], by unfold FV; rw [q0 76 (by decide)]⟩
    obtain ⟨p, p1, p2, -⟩ := s_285 (I := J) (t := t) (L := L) (n := n) (r := r) (n2 := n) (r2 := r) hk hl hn (by rw [q0 76 (by decide)]; exact hI)
    rw [hF.1, hF.2] at p2
    exact ⟨0, J, J, hm, by rw [p1, p2 e1], Nat.zero_le _, fun x h1 _ => q0 x h1, fun _ _ => rfl, fun h9 => absurd h9 (by decide)⟩
  · have hpc := pbb_e (hok.2 c e1)
    have hcB : c ∈ BL (FV I k) := BL_mem.2 ⟨hpc.1, hpc.2.1⟩
    have hcB2 : c ∈ BL (FV I l) := BL_mem.2 ⟨hpc.1, hpc.2.2⟩
    obtain ⟨L1, L2, L3⟩ := LL_ok hW hW2 hcB hcB2
    obtain ⟨q, z1, z2, z3⟩ := c_27 (t := t) (L := L) (m := (fbo (FV I k) (FV I l)).1) hv hw hW hW2 hCJ hCJ2 (by rw [q2, e3]) hpc.1 q1 (by omega) e2
    have fr : ∀ x, ¬ x = 61 → ¬ x = 62 → q.2 x = I x := fun x h1 h2 => (z2 x h2).trans (q0 x h1)
    have hF : FV q.2 k = FV I k ∧ FV q.2 l = FV I l := ⟨by unfold FV; rw [fr 76 (by decide) (by decide)], by unfold FV; rw [fr 76 (by decide) (by decide)]⟩
    obtain ⟨p, p1, -, p2⟩ := s_285 (I := q.2) (t := t) (L := L) (n := n) (r := r) (n2 := n) (r2 := r) hk hl hn (by rw [fr 76 (by decide) (by decide)]; exact hI)
    rw [hF.1, hF.2] at p2
    obtain ⟨p3, p4⟩ := p2 c e1
    rcases z3 with ⟨y1, j, y2, y3, y4, y5⟩ | ⟨y1, y2⟩
    · rcases p4 with ⟨x1, i, x2, x3, x4, x5⟩ | ⟨x1, x2⟩
      · obtain rfl := Fk_first y3 x3 y4 x4
        exact ⟨1, q.2, p.2, by rw [z1, ← y1], by rw [p1, ← x1], Nat.le_refl _, fr, p3, fun _ e he => by rw [y5 e he, x5 e he]⟩
      · exact absurd y3 (x2 j (by omega))
    · rcases p4 with ⟨x1, i, x2, x3, x4, x5⟩ | ⟨x1, x2⟩
      · obtain ⟨j, j1, j2⟩ := conv L1 L2 hn L3 x2 x3
        exact absurd j2 (y2 j j1)
      · exact ⟨0, q.2, p.2, by rw [z1, ← y1], by rw [p1, ← x1], Nat.zero_le _, fr, p3, fun h9 => absurd h9 (by decide)⟩
theorem op_potential {I : ai_I} {t L : Nat} (h : ST I) (s u x : Int32) : OPc I (m_157 1 s u x I (Rc t) (Gc L)) (fun I1 => m_287 75 s u x I1 (Rc t) (Gc L)) := by
  have bad : ∀ J : ai_I, m_203 75 s u J (Rc t) (Gc L) = some (nI 0) → m_287 75 s u x J (Rc t) (Gc L) = some (-2147483648, J) := fun J hJ => by
    unfold m_287
    rw [hJ, o_b1_s, q_00]
  rcases x_cases s (n := 3) (by decide) with ⟨k, hk, rfl⟩ | hs
  · rcases x_cases u (n := 3) (by decide) with ⟨l, hl, rfl⟩ | hu
    · obtain ⟨n, r, hW, hC, hI, hIr⟩ := h.1 k (by omega)
      obtain ⟨n2, r2, hW2, hC2, hI2, hIr2⟩ := h.1 l (by omega)
      have b1 := hW.2.1
      have b2 := hW2.2.1
      have b3 := hW.2.2.2.1
      have b4 := hW2.2.2.2.1
      have b5 := hW.1
      have hv := vc_s (s := k) (by omega)
      have hv2 := vc_s (s := l) (by omega)
      have hs203 : ∀ J : ai_I, J 76 = I 76 → m_203 75 (nI k) (nI l) J (Rc t) (Gc L) = some (bz (n = n2 ∧ r = r2)) := fun J hJ => s_203 (by omega) (by omega) b1 b2 (by omega) (by omega) (by rw [hJ]; exact hI) (by rw [hJ]; exact hI2) (by rw [hJ]; exact hIr) (by rw [hJ]; exact hIr2)
      by_cases e : n = n2 ∧ r = r2
      · obtain ⟨rfl, rfl⟩ := e
        have ec : m_157 1 (nI k) (nI l) x I (Rc t) (Gc L) = (if nI 0 ≤ x ∧ x ≤ nI (n - 1) then o_b1 (m_23 61 (6 + 4 * k) (6 + 4 * l) I (Rc t) (Gc L)) (fun I_50 => o_b2 (m_27 61 (6 + 4 * k) (6 + 4 * l) I_50 (Rc t) (Gc L)) (fun r_61 I_61 => if r_61 = 0 then (some ((-2147483648 : Int32), I_61)) else (o_g (o_in (Gc L) 13 62 x) (some (I_61 62 x.toNatClampNeg, I_61))))) else some (-2147483648, I)) := by
          unfold m_157
          rw [r_1_0, k_2, o_g_t, c_96 (by omega), o_b1_s, c_96 (by omega), o_b1_s, c_186 hv hv2 hW hW2 hC hC2, o_b1_s, q_bz, if_pos ⟨rfl, rfl⟩, v_kd hv, o_g_t, c_120' b1 (by omega) hC.1, o_b1_s, q_bz, r_1_10, k_61, o_g_t, r_61_3]
        rw [ec]
        have er : ∀ J : ai_I, J 76 = I 76 → m_287 75 (nI k) (nI l) x J (Rc t) (Gc L) = (if nI 0 ≤ x ∧ x ≤ nI (n - 1) then o_b2 (m_285 75 (nI k) (nI l) J (Rc t) (Gc L)) (fun r_24 I_24 => if r_24 = 0 then (some ((-2147483648 : Int32), I_24)) else (o_g (o_in (Gc L) 13 85 x) (some (I_24 85 x.toNatClampNeg, I_24)))) else some (-2147483648, J)) := fun J hJ => by
          unfold m_287
          rw [hs203 J hJ, o_b1_s, q_bz, if_pos ⟨rfl, rfl⟩, s_202 (by omega) b1 (by omega) (by rw [hJ]; exact hI), o_b1_s, q_bz, r_75_24]
        rcases x_cases x (n := n - 1) (by omega) with ⟨e, he, rfl⟩ | hx
        · have hin : nI 0 ≤ nI e ∧ nI e ≤ nI (n - 1) := ⟨nI_le (by omega) (by omega), nI_le he (by omega)⟩
          obtain ⟨J, j1, j2⟩ := c_23 (t := t) (L := L) hv hv2 hW hW2 hC hC2
          obtain ⟨g, M, K, g1, g2, g3, g4, g5, g6⟩ := pot_one (t := t) (L := L) h (show k < 4 by omega) (show l < 4 by omega) hW hW2 hC hC2 hI j2
          rw [if_pos hin, j1, o_b1_s, g1, o_b2]
          have hg : g = 0 ∨ g = 1 := by omega
          rcases hg with rfl | rfl
          · refine ⟨-2147483648, M, K, if_pos rfl, ?_, fin_both g4 g5, g4 1999 (by decide) (by decide)⟩
            show m_287 75 (nI k) (nI l) (nI e) M (Rc t) (Gc L) = _
            rw [er M (g4 76 (by decide) (by decide)), if_pos hin, g2, o_b2]
            exact if_pos rfl
          · refine ⟨M 62 e, M, K, ?_, ?_, fin_both g4 g5, g4 1999 (by decide) (by decide)⟩
            · show (if nI 1 = 0 then _ else _) = _
              rw [q_10, g_62 (by omega), o_g_t, i_cl (by omega)]
            · show m_287 75 (nI k) (nI l) (nI e) M (Rc t) (Gc L) = _
              rw [er M (g4 76 (by decide) (by decide)), if_pos hin, g2, o_b2]
              show (if nI 1 = 0 then _ else _) = _
              rw [q_10, g_85 (by omega), o_g_t, i_cl (by omega), g6 rfl e (by omega)]
        · rw [if_neg hx]
          refine ⟨_, I, I, rfl, ?_, SAME_rf, rfl⟩
          show m_287 75 (nI k) (nI l) x I (Rc t) (Gc L) = _
          rw [er I rfl, if_neg hx]
      · refine ⟨-2147483648, I, I, ?_, bad I (by rw [hs203 I rfl, bz_f e]), SAME_rf, rfl⟩
        unfold m_157
        rw [r_1_0, k_2, o_g_t, c_96 (by omega), o_b1_s, c_96 (by omega), o_b1_s, c_186 hv hv2 hW hW2 hC hC2, o_b1_s, q_bz, if_neg e]
    · refine ⟨-2147483648, I, I, ?_, bad I (s_203o (Or.inr ⟨nI_in03 hk, hu⟩)), SAME_rf, rfl⟩
      unfold m_157
      rw [r_1_0, k_2, o_g_t, c_96 (by omega), o_b1_s, c_96o hu, o_b1_s, c_186o (Or.inr ⟨by omega, rfl⟩), o_b1_s, q_00]
  · obtain ⟨a, ha⟩ := c_96e (t := t) (L := L) u
    refine ⟨-2147483648, I, I, ?_, bad I (s_203o (Or.inl hs)), SAME_rf, rfl⟩
    unfold m_157
    rw [r_1_0, k_2, o_g_t, c_96o hs, o_b1_s, ha, o_b1_s, c_186o (Or.inl rfl), o_b1_s, q_00]
theorem op_both {I : ai_I} {t L : Nat} (h : ST I) (s u x : Int32) : OPc I (m_156 1 s u x I (Rc t) (Gc L)) (fun I1 => m_286 75 s u x I1 (Rc t) (Gc L)) := by
  obtain ⟨l0, l1, l2, l3, -⟩ := lits
  have bad : ∀ J : ai_I, m_203 75 s u J (Rc t) (Gc L) = some (nI 0) → m_286 75 s u x J (Rc t) (Gc L) = some (-2147483648, J) := fun J hJ => by
    unfold m_286
    rw [hJ, o_b1_s, q_00]
  rcases x_cases s (n := 3) (by decide) with ⟨k, hk, rfl⟩ | hs
  · rcases x_cases u (n := 3) (by decide) with ⟨l, hl, rfl⟩ | hu
    · obtain ⟨n, r, hW, hC, hI, hIr⟩ := h.1 k (by omega)
      obtain ⟨n2, r2, hW2, hC2, hI2, hIr2⟩ := h.1 l (by omega)
      have b1 := hW.2.1
      have b2 := hW2.2.1
      have b3 := hW.2.2.2.1
      have b4 := hW2.2.2.2.1
      have b5 := hW.1
      have hv := vc_s (s := k) (by omega)
      have hv2 := vc_s (s := l) (by omega)
      have hs203 : ∀ J : ai_I, J 76 = I 76 → m_203 75 (nI k) (nI l) J (Rc t) (Gc L) = some (bz (n = n2 ∧ r = r2)) := fun J hJ => s_203 (by omega) (by omega) b1 b2 (by omega) (by omega) (by rw [hJ]; exact hI) (by rw [hJ]; exact hI2) (by rw [hJ]; exact hIr) (by rw [hJ]; exact hIr2)
      by_cases e : n = n2 ∧ r = r2
      · obtain ⟨rfl, rfl⟩ := e
        obtain ⟨J, j1, j2⟩ := c_23 (t := t) (L := L) hv hv2 hW hW2 hC hC2
        obtain ⟨q0, q1, q2, q3⟩ := j2
        have hF : FV J k = FV I k ∧ FV J l = FV I l := ⟨by unfold FV; rw [q0 76 (by decide)], by unfold FV; rw [q0 76 (by decide)]⟩
        obtain ⟨r1, r2'⟩ := fbo_R hW hW2
        have hok := fbr_ok (FV I k) (FV I l) 256
        have hle : (fbo (FV I k) (FV I l)).1 ≤ 256 := by rw [r1, hok.1]; exact fln_le _ _
        have hJs : SAME I J := CO_same (a := fbo (FV I k) (FV I l)) ⟨q0, q1, q2, q3⟩
        have ec : m_156 1 (nI k) (nI l) x I (Rc t) (Gc L) = (if x = nI 0 then (some (nI (fbo (FV I k) (FV I l)).1, J)) else (if x = nI 1 then (if (fbo (FV I k) (FV I l)).1 = 0 then (some ((-2 : Int32), J)) else (some (nI (fbo (FV I k) (FV I l)).2.1, J))) else (if x = nI 2 then (if (fbo (FV I k) (FV I l)).1 = 0 then (some ((-2147483648 : Int32), J)) else (some ((fbo (FV I k) (FV I l)).2.2, J))) else (if x = nI 3 then (o_b2 (m_27 61 (6 + 4 * k) (6 + 4 * l) J (Rc t) (Gc L)) (fun r_138 I_138 => o_b1 (m_182 r_138) (fun r_141 => some (r_141, I_138)))) else (some ((-2147483648 : Int32), J)))))) := by
          unfold m_156
          rw [r_1_0, k_2, o_g_t, c_96 (by omega), o_b1_s, c_96 (by omega), o_b1_s, c_186 hv hv2 hW hW2 hC hC2, o_b1_s, q_bz, if_pos ⟨rfl, rfl⟩, r_1_10, k_61, o_g_t, j1, o_b1_s, q1, q2, q3, q_e0 (by omega), q_e0 (by omega), l0, l1, l2, l3]
        rw [ec]
        have er : ∀ M : ai_I, M 76 = I 76 → ∀ w, w ≤ 3 → m_286 75 (nI k) (nI l) (nI w) M (Rc t) (Gc L) = (if nI w = (nI 1) then (some (bst (fbr (FV I k) (FV I l) 256).2, M)) else (if nI w = (nI 2) then (if 0 ≤ bst (fbr (FV I k) (FV I l) 256).2 then (o_b1 (m_198 75 (nI k) (bst (fbr (FV I k) (FV I l) 256).2) M (Rc t) (Gc L)) (fun r_59 => o_b1 (m_198 75 (nI l) (bst (fbr (FV I k) (FV I l) 256).2) M (Rc t) (Gc L)) (fun r_66 => some (r_59 + r_66, M)))) else (some ((-2147483648 : Int32), M))) else (if nI w = (nI 3) then (o_b2 (m_285 75 (nI k) (nI l) M (Rc t) (Gc L)) (fun r_79 I_79 => if r_79 = 0 then (some ((nI 0), I_79)) else (some ((nI 1), I_79)))) else (o_s1 (lp (fun s => m_286_b97 75 (nI k) (nI l) M (Rc t) (Gc L) s.1 s.2) o_N ((nI 0), (nI 0))) (fun t => m_286_x97_128 M t))))) := fun M hM w hw => by
          have hFM : FV M k = FV I k ∧ FV M l = FV I l := ⟨by unfold FV; rw [hM], by unfold FV; rw [hM]⟩
          unfold m_286
          rw [hs203 M hM, o_b1_s, q_bz, if_pos ⟨rfl, rfl⟩, j_lit.2.1, j_lit.2.2, s_189i, o_b1_s, q_bz, if_pos ⟨nI_le (by omega) (by omega), nI_le hw (by decide)⟩, s_282 (by omega) (by omega), o_b1_s, hFM.1, hFM.2]
        have h76 : J 76 = I 76 := q0 76 (by decide)
        rcases x_cases x (n := 3) (by decide) with ⟨w, hw, rfl⟩ | hx
        · have hw4 : w = 0 ∨ w = 1 ∨ w = 2 ∨ w = 3 := by omega
          rcases hw4 with rfl | rfl | rfl | rfl
          · refine ⟨nI (fbo (FV I k) (FV I l)).1, J, J, if_pos rfl, ?_, hJs, hJs.2.2.2.2.2⟩
            show m_286 75 (nI k) (nI l) (nI 0) J (Rc t) (Gc L) = _
            rw [er J h76 0 (by omega), if_neg (by decide), if_neg (by decide), if_neg (by decide)]
            have hcnt : wp (o_s1 (lp (fun s => m_286_b97 75 (nI k) (nI l) J (Rc t) (Gc L) s.1 s.2) o_N ((nI 0), (nI 0))) (fun t => m_286_x97_128 J t)) (fun q => q = (nI (fln (pbb (FV I k) (FV I l)) 256), J)) := by
              refine wp_s1 (wp_lp (fun i q => q = (nI (fln (pbb (FV I k) (FV I l)) i), nI i)) 0 256 (Nat.zero_le _) (by omega) rfl ?_ ?_)
              · rintro i _ hi rfl
                simp (disch := omega) only [if_pos, if_neg, o_b1_s, o_b2_s, o_b3_s, o_b4_s, o_s1_s, o_s2_l, o_s2_r, o_g_t, i_add, i_mul, i_sub, i_and, i_or, i_xor, i_sd, i_shl, Nat.one_mul, i_eq, i_lt, i_le, i_n0, i_0le, i_e0, i_0lt, i_le0, i_cl, bz_0, wp_s, lq_l, lq_r, if_true, if_false, ite_not, true_and, and_true, m_286_b97, s_281, hF.1, hF.2]
                split
                · rename_i c
                  simp (disch := omega) only [o_b1_s, o_b2_s, o_b3_s, o_b4_s, o_s1_s, o_s2_l, o_s2_r, o_g_t, i_add, i_mul, i_sub, i_and, i_or, i_xor, i_sd, i_shl, Nat.one_mul, i_eq, i_lt, i_le, i_n0, i_0le, i_e0, i_0lt, i_le0, i_cl, bz_0, wp_s, lq_l, lq_r, if_true, if_false, ite_not, true_and, and_true]
                  rw [fq_t c]
                · rename_i c
                  simp (disch := omega) only [o_b1_s, o_b2_s, o_b3_s, o_b4_s, o_s1_s, o_s2_l, o_s2_r, o_g_t, i_add, i_mul, i_sub, i_and, i_or, i_xor, i_sd, i_shl, Nat.one_mul, i_eq, i_lt, i_le, i_n0, i_0le, i_e0, i_0lt, i_le0, i_cl, bz_0, wp_s, lq_l, lq_r, if_true, if_false, ite_not, true_and, and_true]
                  rw [fq_f (by cases h9 : pbb (FV I k) (FV I l) i; rfl; exact absurd h9 c)]
              · rintro _ rfl
                simp (disch := omega) only [if_pos, if_neg, o_b1_s, o_b2_s, o_b3_s, o_b4_s, o_s1_s, o_s2_l, o_s2_r, o_g_t, i_add, i_mul, i_sub, i_and, i_or, i_xor, i_sd, i_shl, Nat.one_mul, i_eq, i_lt, i_le, i_n0, i_0le, i_e0, i_0lt, i_le0, i_cl, bz_0, wp_s, lq_l, lq_r, if_true, if_false, ite_not, true_and, and_true, m_286_b97, m_286_x97_128]
            obtain ⟨p, p1, rfl⟩ := hcnt
            rw [p1, r1, hok.1]
          · rw [if_neg (by decide), if_pos rfl]
            refine ⟨bst (fbr (FV I k) (FV I l) 256).2, J, J, ?_, ?_, hJs, hJs.2.2.2.2.2⟩
            · rcases r2' with ⟨e1, e2, e3⟩ | ⟨c, e1, e2, e3, e4, e5⟩
              · rw [if_pos e2, e1]
                rfl
              · rw [if_neg e2, e1, e3]
                rfl
            · show m_286 75 (nI k) (nI l) (nI 1) J (Rc t) (Gc L) = _
              rw [er J h76 1 (by omega), if_pos rfl]
          · rw [if_neg (by decide), if_neg (by decide), if_pos rfl]
            refine ⟨if (fbo (FV I k) (FV I l)).1 = 0 then -2147483648 else (fbo (FV I k) (FV I l)).2.2, J, J, ?_, ?_, hJs, hJs.2.2.2.2.2⟩
            · by_cases e2 : (fbo (FV I k) (FV I l)).1 = 0
              · rw [if_pos e2, if_pos e2]
              · rw [if_neg e2, if_neg e2]
            · show m_286 75 (nI k) (nI l) (nI 2) J (Rc t) (Gc L) = _
              rw [er J h76 2 (by omega), if_neg (by decide), if_pos rfl]
              rcases r2' with ⟨e1, e2, e3⟩ | ⟨c, e1, e2, e3, e4, e5⟩
              · rw [if_pos e2, e1, if_neg (by decide)]
              · rw [if_neg e2, e1, if_pos (show 0 ≤ bst (some c) from nI_pos' (by omega)), show bst (some c) = nI c from rfl, s_198 (by omega) e5, s_198 (by omega) e5, o_b1_s, o_b1_s, hF.1, hF.2, e4]
                rw [show Sbb (FV I k) (FV I l) c = FV I k c + FV I l c from if_pos (hok.2 c e1)]
          · rw [if_neg (by decide), if_neg (by decide), if_neg (by decide), if_pos rfl]
            obtain ⟨g, M, K, g1, g2, g3, g4, g5, g6⟩ := pot_one (t := t) (L := L) h (show k < 4 by omega) (show l < 4 by omega) hW hW2 hC hC2 hI ⟨q0, q1, q2, q3⟩
            refine ⟨nI g, M, K, ?_, ?_, fin_both g4 g5, g4 1999 (by decide) (by decide)⟩
            · rw [g1, o_b2]
              have hg : g = 0 ∨ g = 1 := by omega
              rcases hg with rfl | rfl <;> rfl
            · show m_286 75 (nI k) (nI l) (nI 3) M (Rc t) (Gc L) = _
              rw [er M (g4 76 (by decide) (by decide)) 3 (by omega), if_neg (by decide), if_neg (by decide), if_pos rfl, g2, o_b2]
              have hg : g = 0 ∨ g = 1 := by omega
              rcases hg with rfl | rfl
              · exact if_pos rfl
              · exact q_10
        · have hne : ∀ j, j ≤ 3 → ¬ x = nI j := fun j hj h9 => hx (by rw [h9]; exact ⟨nI_le (by omega) (by omega), nI_le hj (by decide)⟩)
          refine ⟨-2147483648, J, J, ?_, ?_, hJs, hJs.2.2.2.2.2⟩
          · rw [if_neg (hne 0 (by omega)), if_neg (hne 1 (by omega)), if_neg (hne 2 (by omega)), if_neg (hne 3 (by omega))]
          · show m_286 75 (nI k) (nI l) x J (Rc t) (Gc L) = _
            unfold m_286
            rw [hs203 J h76, o_b1_s, q_bz, if_pos ⟨rfl, rfl⟩, j_lit.2.1, j_lit.2.2, s_189i, o_b1_s, q_bz, if_neg hx]
      · refine ⟨-2147483648, I, I, ?_, bad I (by rw [hs203 I rfl, bz_f e]), SAME_rf, rfl⟩
        unfold m_156
        rw [r_1_0, k_2, o_g_t, c_96 (by omega), o_b1_s, c_96 (by omega), o_b1_s, c_186 hv hv2 hW hW2 hC hC2, o_b1_s, q_bz, if_neg e]
    · refine ⟨-2147483648, I, I, ?_, bad I (s_203o (Or.inr ⟨nI_in03 hk, hu⟩)), SAME_rf, rfl⟩
      unfold m_156
      rw [r_1_0, k_2, o_g_t, c_96 (by omega), o_b1_s, c_96o hu, o_b1_s, c_186o (Or.inr ⟨by omega, rfl⟩), o_b1_s, q_00]
  · obtain ⟨a, ha⟩ := c_96e (t := t) (L := L) u
    refine ⟨-2147483648, I, I, ?_, bad I (s_203o (Or.inl hs)), SAME_rf, rfl⟩
    unfold m_156
    rw [r_1_0, k_2, o_g_t, c_96o hs, o_b1_s, ha, o_b1_s, c_186o (Or.inl rfl), o_b1_s, q_00]
