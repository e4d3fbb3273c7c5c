/-! Call shared. -/
theorem op_shared {I : ai_I} {t L : Nat} (h : ST I) (s u x y : Int32) : OPa I (m_170 1 s u x y I (Rc t) (Gc L)) (fun I1 => m_319 75 s u x y I1 (Rc t) (Gc L)) := by
  unfold m_170 m_319
  rw [r_1_0, k_2, o_g_t, s_200, s_200]
  rcases x_cases s (n := 3) (by decide) with ⟨k, hk, rfl⟩ | hs
  · rw [c_96 (by omega), o_b1_s]
    rcases x_cases u (n := 3) (by decide) with ⟨l, hl, rfl⟩ | hu
    · obtain ⟨n, r, hW, hC, hI, hIr⟩ := h.1 k (by omega)
      obtain ⟨n2, r2, hW2, hC2, hI2, hIr2⟩ := h.1 l (by omega)
      have b1 := hW.2.1
      have b2 := hW2.2.1
      have h8 := p2_le b1
      have h0 := Nat.two_pow_pos n
      have hv := vc_s (s := k) (by omega)
      have hv2 := vc_s (s := l) (by omega)
      rw [c_96 (by omega), o_b1_s, c_185 hv hv2 b1 b2 hC.1 hC2.1, o_b1_s, q_bz]
      by_cases e : n = n2
      · subst e
        rw [if_pos rfl]
        rcases x_cases x (n := n) (by omega) with ⟨j, hj, rfl⟩ | hx
        · have hin : nI 0 ≤ nI j ∧ nI j ≤ nI n := ⟨nI_le (by omega) (by omega), nI_le hj (by omega)⟩
          obtain ⟨J, a1, a2⟩ := c_24 (I := I) (t := t) (L := L) (k := j) hv hv2 hW hC hC2 (by omega)
          have hJ76 : J 76 = I 76 := a2.1 76 (by decide)
          have hFk : FV J k = FV I k := by
            unfold FV
            rw [hJ76]
          have hFl : FV J l = FV I l := by
            unfold FV
            rw [hJ76]
          have hRP : RP J = RP I := by
            unfold RP
            rw [hJ76]
          have hpr : prs (I 4) = prs (RP I) := funext (fun z => prs_cong (fun e he => (h.2.2.1 e he).1) z)
          rw [hpr] at a2
          have hgt : ∀ z, ¬ prs (RP I) z ≤ NO := fun z => gt_NO (prs_gt (fun e he => by
            have h9 := h.2.2.1 e he
            have h10 : RP I e = I 4 e := h9.1.symm
            rw [h10]
            exact h9.2) z).1
          have hR := co_fd (p := pfr (FV I k) (FV I l) j) (S := prs (RP I)) (l := List.range (2 ^ n)) (fun z hz => by have := List.mem_range.1 hz; omega) hgt
          have hF : ∀ z, (o_s1 (lp (fun q => m_319_b68 75 (nI k) (nI l) (nI j) J (Rc t) (Gc L) q.1 q.2.1 q.2.2) o_N (nI 0, -2, nI 0)) fun t_1 => m_319_x68_146 75 z J (Rc t) (Gc L) t_1.1 t_1.2) = m_319_x68_146 75 z J (Rc t) (Gc L) (nI (fd (fre (pfr (FV I k) (FV I l) j) (prs (RP I))) (List.range (2 ^ n)) (0, none)).1) (bst (fd (fre (pfr (FV I k) (FV I l) j) (prs (RP I))) (List.range (2 ^ n)) (0, none)).2) := by
            intro z
            refine lp_fd_s1 (fun k (a : Nat × Option Nat) => (nI a.1, bst a.2, nI k)) (fre (pfr (FV I k) (FV I l) j) (prs (RP I))) (fun a => (nI a.1, bst a.2)) (fun _ a => ∀ q, a.2 = some q → q < 256) (2 ^ n) (0, none) ?_ ?_ (fun q hq => by cases hq) (by omega) rfl
            · intro w a hw ha
              have hpc := pc_le w
              refine ⟨?_, ?_⟩
              · unfold fre
                intro q hq
                by_cases hp : pfr (FV I k) (FV I l) j w = true
                · rw [if_pos hp] at hq
                  change (match a.2 with
                    | none => some w
                    | some j => if prs (RP I) w ≤ prs (RP I) j then some j else some w) = some q at hq
                  cases ho : a.2 with
                  | none =>
                    rw [ho] at hq
                    cases hq
                    omega
                  | some j2 =>
                    rw [ho] at hq
                    change (if prs (RP I) w ≤ prs (RP I) j2 then some j2 else some w) = some q at hq
                    by_cases hc : prs (RP I) w ≤ prs (RP I) j2
                    · rw [if_pos hc] at hq
                      cases hq
                      exact ha _ ho
                    · rw [if_neg hc] at hq
                      cases hq
                      omega
                · rw [if_neg hp] at hq
                  exact ha q hq
              · show m_319_b68 75 (nI k) (nI l) (nI j) J (Rc t) (Gc L) (nI a.1) (bst a.2) (nI w) = _
                unfold m_319_b68
                rw [s_197 (by omega) b1 (by rw [hJ76]; exact hI), o_b1_s, q_ltF (by omega) (by omega), s_193 (by omega), o_b1_s, q_eq (by omega) (by omega), s_252 (by omega) (by omega), o_b1_s, q_bz, s_252 (by omega) (by omega), o_b1_s, q_bz, i_add, o_b1_s, i_add, o_b1_s, o_b1_s, hFk, hFl, s_233 (by omega), o_b1_s, hRP]
                unfold fre pfr
                by_cases c1 : pc w = j
                · by_cases c2 : rk (FV I k) w = pc w
                  · by_cases c3 : rk (FV I l) w = pc w
                    · rw [if_pos c1, if_pos c2, if_pos c3, if_pos (show (decide (pc w = j) && (decide (rk (FV I k) w = pc w) && decide (rk (FV I l) w = pc w))) = true by simp [c1, c2, c3])]
                      cases ho : a.2 with
                      | none =>
                        rw [if_pos (show bst none < 0 from by decide)]
                        rfl
                      | some j2 =>
                        have hj2 := ha _ ho
                        rw [if_neg (show ¬ bst (some j2) < 0 from nI_pos (by omega)), show bst (some j2) = nI j2 from rfl, s_233 hj2, o_b1_s, hRP]
                        by_cases hc : prs (RP I) w ≤ prs (RP I) j2
                        · rw [if_pos hc]
                          show _ = some (Sum.inl (nI (a.1 + 1), bst (if prs (RP I) w ≤ prs (RP I) j2 then some j2 else some w), nI (w + 1)))
                          rw [if_pos hc]
                          rfl
                        · rw [if_neg hc]
                          show _ = some (Sum.inl (nI (a.1 + 1), bst (if prs (RP I) w ≤ prs (RP I) j2 then some j2 else some w), nI (w + 1)))
                          rw [if_neg hc]
                          rfl
                    · rw [if_pos c1, if_pos c2, if_neg c3, if_neg (show ¬ (decide (pc w = j) && (decide (rk (FV I k) w = pc w) && decide (rk (FV I l) w = pc w))) = true by simp [c3]), o_b1_s]
                  · rw [if_pos c1, if_neg c2, if_neg (show ¬ (decide (pc w = j) && (decide (rk (FV I k) w = pc w) && decide (rk (FV I l) w = pc w))) = true by simp [c2]), o_b1_s]
                · rw [if_neg c1, if_neg (show ¬ (decide (pc w = j) && (decide (rk (FV I k) w = pc w) && decide (rk (FV I l) w = pc w))) = true by simp [c1]), o_b1_s]
            · intro a ha
              show m_319_b68 75 (nI k) (nI l) (nI j) J (Rc t) (Gc L) (nI a.1) (bst a.2) (nI (2 ^ n)) = _
              unfold m_319_b68
              rw [s_197 (by omega) b1 (by rw [hJ76]; exact hI), o_b1_s, q_ltT (by omega) (by omega)]
          generalize fd (fre (pfr (FV I k) (FV I l) j) (prs (RP I))) (List.range (2 ^ n)) (0, none) = B at hR hF
          have hle : (fd (fco (pfr (FV I k) (FV I l) j) (prs (RP I))) (List.range (2 ^ n)) (0, 0, NO)).1 ≤ 2 ^ n := fd_idx (fun i (a : Nat × Nat × Int32) => a.1 ≤ i) (Nat.le_refl _) (fun i a hi ha => by
            unfold fco
            split
            · show a.1 + 1 ≤ i + 1
              omega
            · omega)
          generalize fd (fco (pfr (FV I k) (FV I l) j) (prs (RP I))) (List.range (2 ^ n)) (0, 0, NO) = A at hR a2 hle
          obtain ⟨c0, c1, c2, c3⟩ := a2
          rw [q_n0 (by omega), v_kd hv, o_g_t, hC.1, q_leT (by omega) hj, r_1_10, k_61, o_g_t, r_2_1, a1, o_b1_s, c1, c2, c3]
          refine ⟨if y = 0 then nI A.1 else if y = 1 then (if A.1 = 0 then -2147483648 else A.2.2) else if y = 2 then (if A.1 = 0 then -2 else nI A.2.1) else -2147483648, J, ?_, ?_, CO_same ⟨c0, c1, c2, c3⟩⟩
          · rw [q_e0 (by omega), q_e0 (by omega)]
            by_cases y0 : y = 0
            · rw [if_pos y0, if_pos y0]
            · rw [if_neg y0, if_neg y0]
              by_cases y1 : y = 1
              · rw [if_pos y1, if_pos y1]
                by_cases hz : A.1 = 0
                · rw [if_pos hz, if_pos hz]
                · rw [if_neg hz, if_neg hz]
              · rw [if_neg y1, if_neg y1]
                by_cases y2 : y = 2
                · rw [if_pos y2, if_pos y2]
                  by_cases hz : A.1 = 0
                  · rw [if_pos hz, if_pos hz]
                  · rw [if_neg hz, if_neg hz]
                · rw [if_neg y2, if_neg y2]
          · show o_b1 (some (bz (nI 0 ≤ nI k ∧ nI k ≤ nI 3))) _ = _
            rw [o_b1_s, q_bz, if_pos (nI_in03 hk), o_b1_s, q_bz, if_pos (nI_in03 hl), s_195 (by omega), o_b1_s, s_195 (by omega), o_b1_s, hJ76, hI, hI2, if_pos rfl, o_b1_s, j_lit.2.1, s_189i, o_b1_s, q_bz, if_pos hin, show (2 : Int64) = (nI 2).toInt64 from by decide +kernel, s_189i, o_b1_s, q_bz, hF]
            obtain ⟨d1, d2⟩ := hR
            rcases x_cases y (n := 2) (by decide) with ⟨q, hq, rfl⟩ | hy
            · rw [if_pos ⟨nI_le (by omega) (by omega), nI_le hq (by decide)⟩]
              unfold m_319_x68_146
              have hq3 : q = 0 ∨ q = 1 ∨ q = 2 := by omega
              rcases hq3 with rfl | rfl | rfl
              · rw [q_00, if_pos (show nI 0 = 0 from rfl), d1]
              · rw [q_10, if_neg (show ¬ nI 1 = nI 2 from by decide), if_neg (show ¬ nI 1 = 0 from by decide), if_pos (show nI 1 = 1 from rfl)]
                rcases d2 with ⟨e1, e2, e3⟩ | ⟨j2, e1, e2, e3, e4, e5⟩
                · rw [e1, if_pos e2, if_neg (show ¬ 0 ≤ bst none from by decide)]
                · rw [e1, if_neg e2, show bst (some j2) = nI j2 from rfl, q_p0 (by omega), s_233 e5, o_b1_s, e4, hRP]
              · rw [if_neg (show ¬ nI 2 = 0 from by decide), if_pos rfl, if_neg (show ¬ nI 2 = 0 from by decide), if_neg (show ¬ nI 2 = 1 from by decide), if_pos (show nI 2 = 2 from rfl)]
                rcases d2 with ⟨e1, e2, e3⟩ | ⟨j2, e1, e2, e3, e4, e5⟩
                · rw [e1, if_pos e2]
                  rfl
                · rw [e1, if_neg e2, e3]
                  rfl
            · rw [if_neg hy, if_neg (fun h9 => hy (by rw [h9]; exact ⟨by decide, by decide⟩)), if_neg (fun h9 => hy (by rw [h9]; exact ⟨by decide, by decide⟩)), if_neg (fun h9 => hy (by rw [h9]; exact ⟨by decide, by decide⟩))]
        · refine ⟨-2147483648, I, ?_, ?_, SAME_rf⟩
          · rw [v_kd hv, o_g_t, hC.1]
            by_cases h1 : x < 0
            · rw [if_pos h1]
            · rw [if_neg h1, if_neg (fun h2 => hx ⟨Int32.not_lt.1 h1, h2⟩)]
          · show o_b1 (some (bz (nI 0 ≤ nI k ∧ nI k ≤ nI 3))) _ = _
            rw [o_b1_s, q_bz, if_pos (nI_in03 hk), o_b1_s, q_bz, if_pos (nI_in03 hl), s_195 (by omega), o_b1_s, s_195 (by omega), o_b1_s, hI, hI2, if_pos rfl, o_b1_s, j_lit.2.1, s_189i, o_b1_s, q_bz, if_neg hx]
      · rw [if_neg e]
        refine ⟨-2147483648, I, rfl, ?_, SAME_rf⟩
        show o_b1 (some (bz (nI 0 ≤ nI k ∧ nI k ≤ nI 3))) _ = _
        rw [o_b1_s, q_bz, if_pos (nI_in03 hk), o_b1_s, q_bz, if_pos (nI_in03 hl), s_195 (by omega), o_b1_s, s_195 (by omega), o_b1_s, hI, hI2, q_eq (by omega) (by omega), if_neg e]
    · rw [c_96o hu, o_b1_s]
      unfold m_185
      rw [if_neg (by omega), if_pos rfl, o_b1_s, q_00]
      refine ⟨-2147483648, I, rfl, ?_, SAME_rf⟩
      show o_b1 (some (bz (nI 0 ≤ nI k ∧ nI k ≤ nI 3))) _ = _
      rw [o_b1_s, q_bz, if_pos (nI_in03 hk), o_b1_s, q_bz, if_neg hu]
  · obtain ⟨a, ha⟩ := c_96e (t := t) (L := L) u
    rw [c_96o hs, o_b1_s, ha, o_b1_s]
    unfold m_185
    rw [if_pos rfl, o_b1_s, q_00]
    refine ⟨-2147483648, I, rfl, ?_, SAME_rf⟩
    show o_b1 (some (bz (nI 0 ≤ s ∧ s ≤ nI 3))) _ = _
    rw [o_b1_s, q_bz, if_neg hs]
