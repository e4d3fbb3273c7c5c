/-! Call initial: the call. -/
theorem op_initial {I : ai_I} {t L : Nat} (h : ST I) (s x : Int32) : OPc I (m_152 1 s x I (Rc t) (Gc L)) (fun I1 => m_273 75 s x I1 (Rc t) (Gc L)) := by
  rcases x_cases s (n := 3) (by decide) with ⟨k, hk, rfl⟩ | hs
  · obtain ⟨n, r, I1, hW, hC, hI, hIr, f1, f2, f3, f4, f5, f6, f7, f8⟩ := c_fill (t := t) (L := L) h (show k < 4 by omega)
    have hv := vc_s (s := k) (by omega)
    obtain ⟨l0, l1, l2, -⟩ := lits
    have ec : m_152 1 (nI k) x I (Rc t) (Gc L) = (if x < nI 10 then (if x = nI 0 then (o_b1 (m_108 57 (6 + 4 * k) I1 (Rc t) (Gc L)) (fun r_81 => some (r_81, I1))) else (if x = nI 1 then (some (I1 57 1, I1)) else (if x = nI 2 then (o_b2 (m_36 55 (6 + 4 * k) 57 I1 (Rc t) (Gc L)) (fun r_107 I_107 => o_b2 (m_32 55 (6 + 4 * k) r_107 (nI 0) I_107 (Rc t) (Gc L)) (fun r_111 I_111 => if r_111 = 0 then (m_152_j122 I_111 (nI 1)) else (m_152_j122 I_111 (nI 0))))) else (some ((-2147483648 : Int32), I1))))) else (o_b1 (m_109 57 (6 + 4 * k) (x - nI 10) I1 (Rc t) (Gc L)) (fun r_46 => some (r_46, I1)))) := by
      unfold m_152
      rw [r_1_0, k_2, o_g_t, c_96 (by omega), o_b1_s, if_neg (by omega), r_1_8, k_57, o_g_t, r_2_1, f1, o_b1_s, r_1_7, k_55, o_g_t, l0, l1, l2]
    have er : ∀ J : ai_I, (∀ c, ¬ c = 55 → ¬ c = 56 → ¬ c = 57 → ¬ c = 58 → J c = I c) → m_273 75 (nI k) x J (Rc t) (Gc L) = (if (nI 0 ≤ x ∧ x ≤ nI 2) ∨ nI 10 ≤ x then (if x = nI 1 then some (gs (fun x => FV I k x + prs (RP I) x) (BL (FV I k)), J) else o_s2 (lp (fun s => m_273_b47 75 (nI k) x (Rc t) (Gc L) (gs (fun x => FV I k x + prs (RP I) x) (BL (FV I k))) s.1 s.2.1 s.2.2) o_N (nI 0, nI 0, J)) (fun t => m_273_x47_103 t.1 t.2) (fun q => m_273_x47_118 75 x (Rc t) (Gc L) q.1 q.2)) else some (-2147483648, J)) := fun J hJ => by
      have hF : FV J k = FV I k := by
        unfold FV
        rw [hJ 76 (by decide) (by decide) (by decide) (by decide)]
      have hR : RP J = RP I := by
        unfold RP
        rw [hJ 76 (by decide) (by decide) (by decide) (by decide)]
      unfold m_273 m_273_j28
      rw [s_200, o_b1_s, q_bz, if_pos (nI_in03 hk), j_lit.2.1, j2_lit, s_189i, o_b1_s, q_bz, s_266 (by omega), o_b1_s, hF, hR]
      by_cases c1 : nI 0 ≤ x ∧ x ≤ nI 2
      · rw [if_pos c1, if_pos (Or.inl c1)]
      · rw [if_neg c1]
        by_cases c2 : nI 10 ≤ x
        · rw [if_pos c2, if_pos (Or.inr c2)]
        · rw [if_neg c2, if_neg (fun h9 => by rcases h9 with h9 | h9; exact c1 h9; exact c2 h9)]
    have hJ0 : ∀ c, ¬ c = 55 → ¬ c = 56 → ¬ c = 57 → ¬ c = 58 → I1 c = I c := fun c _ _ c3 c4 => f8 c c3 c4
    have fin : ∀ J K : ai_I, (∀ c, ¬ c = 55 → ¬ c = 56 → ¬ c = 57 → ¬ c = 58 → J c = I c) → ot J K 83 → SAME I K := fun J K h1 h2 => ⟨fun c hc => by rw [h2 c (by omega), h1 c (by omega) (by omega) (by omega) (by omega)], fun i _ => by rw [h2 76 (by decide), h1 76 (by decide) (by decide) (by decide) (by decide)], by rw [h2 77 (by decide), h1 77 (by decide) (by decide) (by decide) (by decide)], by rw [h2 75 (by decide), h1 75 (by decide) (by decide) (by decide) (by decide)], by rw [h2 75 (by decide), h1 75 (by decide) (by decide) (by decide) (by decide)], by rw [h2 1999 (by decide), h1 1999 (by decide) (by decide) (by decide) (by decide)]⟩
    have hFR : ∀ J : ai_I, (∀ c, ¬ c = 55 → ¬ c = 56 → ¬ c = 57 → ¬ c = 58 → J c = I c) → FV J k = FV I k ∧ RP J = RP I := fun J hJ => ⟨by unfold FV; rw [hJ 76 (by decide) (by decide) (by decide) (by decide)], by unfold RP; rw [hJ 76 (by decide) (by decide) (by decide) (by decide)]⟩
    rw [ec]
    by_cases hx : x < nI 10
    · rw [if_pos hx]
      have hx10 : ¬ nI 10 ≤ x := Int32.not_le.2 hx
      by_cases h0 : x = nI 0
      · subst h0
        rw [if_pos rfl]
        obtain ⟨q, q1, rfl⟩ := c_108 (t := t) (L := L) (g := gs (fun x => FV I k x + prs (RP I) x) (BL (FV I k))) hv hW f3 f6 f7
        obtain ⟨z, z1, z2⟩ := s_init (I := I1) (t := t) (L := L) (s := k) (w := 1000) (x := nI 0) (g := gs (fun x => FV I k x + prs (RP I) x) (BL (FV I k))) (by omega) (fun m hm => propext ⟨fun h9 => by
          have h8 := congrArg Int32.toInt h9
          rw [nI_toInt (by omega), show (nI 0 - nI 10).toInt = -10 from by decide] at h8
          omega, fun h9 => by omega⟩)
        rw [(hFR I1 hJ0).1, (hFR I1 hJ0).2] at z2
        cases z with
        | inl p =>
          obtain ⟨b, b1, b2, b3, -⟩ := z2
          have := fln_le (inq (FV I k) (fun x => FV I k x + prs (RP I) x) (gs (fun x => FV I k x + prs (RP I) x) (BL (FV I k)))) b
          omega
        | inr p =>
          obtain ⟨p1, p2, p3, p4⟩ := z2
          refine ⟨_, I1, p.2, by rw [q1]; rfl, ?_, fin _ _ hJ0 p3, hJ0 1999 (by decide) (by decide) (by decide) (by decide)⟩
          show m_273 75 (nI k) (nI 0) I1 (Rc t) (Gc L) = _
          rw [er I1 hJ0, if_pos (Or.inl (by decide)), if_neg (by decide), z1, o_s2_r]
          unfold m_273_x47_118
          rw [if_pos (by decide), p1]
      · rw [if_neg h0]
        by_cases h1 : x = nI 1
        · subst h1
          rw [if_pos rfl]
          refine ⟨_, I1, I1, rfl, ?_, f2, f2.2.2.2.2.2⟩
          show m_273 75 (nI k) (nI 1) I1 (Rc t) (Gc L) = _
          rw [er I1 hJ0, if_pos (Or.inl (by decide)), if_pos rfl, f7]
        · rw [if_neg h1]
          by_cases h2 : x = nI 2
          · subst h2
            rw [if_pos rfl]
            obtain ⟨p, p1, p2, p3, p4⟩ := c_36 (t := t) (L := L) (g := gs (fun x => FV I k x + prs (RP I) x) (BL (FV I k))) hv hW f3 f6 f7
            have hC2 : CS p.2 (6 + 4 * k) n r (FV I k) := CS_cong (fun _ _ => rfl) (p3 _ (by omega)) (p3 _ (by omega)) (p3 _ (by omega)) (p3 _ (by omega)) f3
            obtain ⟨q, q1, q2, q3⟩ := c_32 (t := t) (L := L) (c := 56) (w := 0) hv hW hC2 rfl rfl (by decide) (fun j hj hV => by rw [p4 j hj]; unfold irow; rw [inq_f (Or.inl hV)]; rfl) (by decide)
            have hJ : ∀ c, ¬ c = 55 → ¬ c = 56 → ¬ c = 57 → ¬ c = 58 → q.2 c = I c := fun c c1 c2 c3 c4 => (q2 c c1).trans ((p3 c c2).trans (f8 c c3 c4))
            obtain ⟨z, z1, z2⟩ := s_init (I := q.2) (t := t) (L := L) (s := k) (w := 1000) (x := nI 2) (g := gs (fun x => FV I k x + prs (RP I) x) (BL (FV I k))) (by omega) (fun m hm => propext ⟨fun h9 => by
              have h8 := congrArg Int32.toInt h9
              rw [nI_toInt (by omega), show (nI 2 - nI 10).toInt = -8 from by decide] at h8
              omega, fun h9 => by omega⟩)
            rw [(hFR q.2 hJ).1, (hFR q.2 hJ).2] at z2
            rw [p1, o_b2, p2, q1, o_b2]
            cases z with
            | inl p =>
              obtain ⟨b, b1, b2, b3, -⟩ := z2
              have := fln_le (inq (FV I k) (fun x => FV I k x + prs (RP I) x) (gs (fun x => FV I k x + prs (RP I) x) (BL (FV I k)))) b
              omega
            | inr u =>
              obtain ⟨u1, u2, u3, u4⟩ := z2
              refine ⟨if q.1 = 0 then nI 1 else nI 0, q.2, u.2, ?_, ?_, fin _ _ hJ u3, hJ 1999 (by decide) (by decide) (by decide) (by decide)⟩
              · unfold m_152_j122
                by_cases e : q.1 = 0
                · rw [if_pos e, if_pos e]
                  rfl
                · rw [if_neg e, if_neg e]
                  rfl
              · show m_273 75 (nI k) (nI 2) q.2 (Rc t) (Gc L) = _
                obtain ⟨y, y1, y2⟩ := s_246 (I := u.2) (t := t) (L := L) (hx_w (show 0 < 2147483648 by decide))
                rw [er q.2 hJ, if_pos (Or.inl (by decide)), if_neg (by decide), z1, o_s2_r]
                unfold m_273_x47_118 m_247
                rw [if_neg (by decide), if_pos rfl, y1, o_b1_s]
                exact hold_one (T := p.2 56) (U := u.2 83) (q := q.1) (J := q.2) q3 (fun j hj => by rw [p4 j hj, u4 j hj]) y y2 u.2
          · rw [if_neg h2]
            refine ⟨_, I1, I1, rfl, ?_, f2, f2.2.2.2.2.2⟩
            show m_273 75 (nI k) x I1 (Rc t) (Gc L) = _
            rw [er I1 hJ0, if_neg]
            rintro (h9 | h9)
            · obtain ⟨j, hj, rfl⟩ : ∃ j, j ≤ 2 ∧ x = nI j := by
                rcases x_cases x (n := 2) (by decide) with h8 | h8
                · exact h8
                · exact absurd h9 h8
              have hj3 : j = 0 ∨ j = 1 ∨ j = 2 := by omega
              rcases hj3 with rfl | rfl | rfl
              · exact h0 rfl
              · exact h1 rfl
              · exact h2 rfl
            · exact hx10 h9
    · rw [if_neg hx]
      have hx2 := Int32.not_lt.1 hx
      obtain ⟨w, hw, hw2, rfl⟩ : ∃ w, w + 10 < 2147483648 ∧ x - nI 10 = nI w ∧ x = nI (w + 10) := by
        obtain ⟨j, hj, rfl⟩ := nI_of (x := x) (fun h9 => hx (Int32.lt_trans h9 (by decide)))
        rw [i_le (by decide) hj] at hx2
        exact ⟨j - 10, by omega, i_sub hx2, by rw [show j - 10 + 10 = j by omega]⟩
      rw [hw2]
      obtain ⟨q, q1, q2⟩ := c_109 (t := t) (L := L) (g := gs (fun x => FV I k x + prs (RP I) x) (BL (FV I k))) (w := w) hv hW f3 f6 f7 (by omega)
      obtain ⟨z, z1, z2⟩ := s_init (I := I1) (t := t) (L := L) (s := k) (w := w) (x := nI (w + 10)) (g := gs (fun x => FV I k x + prs (RP I) x) (BL (FV I k))) (by omega) (fun m hm => by rw [hw2, i_eq (by omega) (by omega)])
      rw [(hFR I1 hJ0).1, (hFR I1 hJ0).2] at z2
      have hne : ¬ nI (w + 10) = nI 1 := fun h9 => by
        rw [i_eq (by omega) (by decide)] at h9
        omega
      cases z with
      | inl p =>
        obtain ⟨b, b1, b2, b3, b4, b5⟩ := z2
        refine ⟨nI b, I1, p.2, ?_, ?_, fin _ _ hJ0 b5, hJ0 1999 (by decide) (by decide) (by decide) (by decide)⟩
        · rw [q1, o_b1_s]
          rcases q2 with ⟨c, c1, c2, c3, rfl⟩ | ⟨c1, c2⟩
          · rw [inq_one b2 b3 c2 c3]
          · exact (inq_not b1 b2 b3 c2).elim
        · show m_273 75 (nI k) (nI (w + 10)) I1 (Rc t) (Gc L) = _
          rw [er I1 hJ0, if_pos (Or.inr (nI_le (by omega) (by omega))), if_neg hne, z1, o_s2_l]
          unfold m_273_x47_103
          rw [b4]
      | inr p =>
        obtain ⟨b1, b2, b3, -⟩ := z2
        refine ⟨-4, I1, p.2, ?_, ?_, fin _ _ hJ0 b3, hJ0 1999 (by decide) (by decide) (by decide) (by decide)⟩
        · rw [q1, o_b1_s]
          rcases q2 with ⟨c, c1, c2, c3, rfl⟩ | ⟨c1, c2⟩
          · exact (inq_not c1 c2 c3 b2).elim
          · rw [c1]
        · show m_273 75 (nI k) (nI (w + 10)) I1 (Rc t) (Gc L) = _
          rw [er I1 hJ0, if_pos (Or.inr (nI_le (by omega) (by omega))), if_neg hne, z1, o_s2_r]
          unfold m_273_x47_118
          rw [if_neg (fun h9 => by
            have h8 : nI (w + 10) = nI 0 := h9
            rw [i_eq (by omega) (by decide)] at h8
            omega), if_neg (fun h9 => by
            rw [i_eq (by omega) (by decide)] at h9
            omega)]
  · refine ⟨-2147483648, I, I, ?_, ?_, SAME_rf, rfl⟩
    · unfold m_152
      rw [r_1_0, k_2, o_g_t, c_96o hs, o_b1_s, if_pos rfl]
    · show m_273 75 s x I (Rc t) (Gc L) = _
      unfold m_273
      rw [s_200, o_b1_s, q_bz, if_neg hs]
