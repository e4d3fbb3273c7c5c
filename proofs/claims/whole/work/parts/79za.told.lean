/-! Sets of told: read by the reference. -/
theorem s_216i {K0 K : ai_I} {t L n f1 fs i : Nat} {N1 : Nat → Int32} {γ : Type} {Q : γ → Prop} {g : Int32 → Option γ} (hf : f1 = fs + 2 * i + 1) (hf1 : f1 ≤ 110) (h11 : K 75 11 = nI f1) (h7 : K 75 7 = N1 (f1 - 1)) (hN : ∀ k, k < f1 → K 80 k = N1 k) (hg : ∀ v, yn (∃ j, fs + 2 * j + 1 < f1 ∧ N1 (fs + 2 * j) = N1 (f1 - 1)) v → wp (g v) Q) : wp (o_s1 (lp (fun s => m_216_b65 75 (Rc t) (Gc L) K s.1 s.2) o_N ((nI 0), nI fs)) g) Q := by
  refine wp_s1 (wp_lp (fun j s => s.2 = nI (fs + 2 * j) ∧ yn (∃ j', j' < j ∧ N1 (fs + 2 * j') = N1 (f1 - 1)) s.1) 0 i (Nat.zero_le _) (by omega) ⟨rfl, Or.inr ⟨rfl, fun ⟨j', h, _⟩ => absurd h (Nat.not_lt_zero _)⟩⟩ ?_ ?_)
  · rintro j ⟨v, c⟩ hj ⟨g1, g2⟩
    dsimp only at g1 g2
    subst g1
    unfold m_216_b65
    dsimp only
    rw [h11, i_sub (by omega), if_neg (nI_ge (show fs + 2 * j < f1 - 1 by omega) (by omega))]
    rcases g2 with ⟨rfl, hp⟩ | ⟨rfl, hp⟩
    · rw [if_neg (show ¬ nI 1 = 0 by decide)]
      unfold m_216_j95 m_216_j100
      rw [i_add, o_b1_s, wp_s, lq_l]
      obtain ⟨j', a1, a2⟩ := hp
      exact ⟨rfl, Or.inl ⟨rfl, j', by omega, a2⟩⟩
    · rw [if_pos (show nI 0 = 0 from rfl), r_75_15, g_80 (by omega), o_g_t, i_cl (by omega), hN _ (by omega), h7]
      by_cases c : N1 (fs + 2 * j) = N1 (f1 - 1)
      · rw [if_pos c]
        unfold m_216_j95 m_216_j100
        rw [i_add, o_b1_s, wp_s, lq_l]
        exact ⟨rfl, Or.inl ⟨rfl, j, by omega, c⟩⟩
      · rw [if_neg c]
        unfold m_216_j100
        rw [i_add, o_b1_s, wp_s, lq_l]
        refine ⟨rfl, Or.inr ⟨rfl, fun ⟨j', a1, a2⟩ => ?_⟩⟩
        by_cases e : j' = j
        · rw [e] at a2
          exact c a2
        · exact hp ⟨j', by omega, a2⟩
  · rintro ⟨v, c⟩ ⟨g1, g2⟩
    dsimp only at g1 g2
    subst g1
    unfold m_216_b65
    dsimp only
    rw [h11, i_sub (by omega), if_pos (nI_le (by omega) (by omega)), wp_s, lq_r]
    refine hg v ?_
    rcases g2 with ⟨rfl, j', a1, a2⟩ | ⟨rfl, hp⟩
    · exact Or.inl ⟨rfl, j', by omega, a2⟩
    · exact Or.inr ⟨rfl, fun ⟨j', a1, a2⟩ => hp ⟨j', by omega, a2⟩⟩
theorem s_216 {K0 K : ai_I} {t L n f : Nat} {T : Nat → Nat} {p : Nat} {N : Nat → Int32} {q : Int32} (hT : TR K0 T n) (h : RL K0 n q K (.inr (p, f, N))) : wp (m_216 75 K (Rc t) (Gc L)) (fun r => RL K0 n r.1 r.2 (bdp T n 4 f (hdp T n 4 (.inr (p, f, N))))) := by
  have hn := hT.2.1
  have hT3 : ∀ k, k < n → T k < 256 := fun k hk => (hT.2.2 k hk).1
  show wp (m_216 75 K (Rc t) (Gc L)) (fun r => RL K0 n r.1 r.2 (bdp T n 4 f (rr T n (.inr (p, f, N)))))
  unfold m_216
  refine wp_b2 (wp_mono (s_213 hT h) ?_)
  rintro ⟨v1, K1⟩ h1
  dsimp only at h1 ⊢
  cases e1 : rr T n (.inr (p, f, N)) with
  | inl e =>
    rw [e1] at h1
    rw [h1.1, q_00, wp_s]
    exact ⟨rfl, h1.2⟩
  | inr y =>
    obtain ⟨p9, f9, N9, q9, k9, a, b, e5, rfl, u1, u2, u3, u4, u5, u6, u7⟩ := rr_s e1
    cases e5
    rw [e1] at h1
    obtain ⟨z1, w1, w2, hM⟩ := id h1
    have x1 : va_up (va_up (va_up N f (nI k9)) (f + 1) (nI a)) (f + 2) (nI b) (f + 1) = nI a := by rw [up_ne (by omega), up_eq]
    have x2 : va_up (va_up (va_up N f (nI k9)) (f + 1) (nI a)) (f + 2) (nI b) (f + 2) = nI b := by rw [up_eq]
    have v1' : K1 80 (f + 1) = nI a := by rw [hM.2.2.2 _ (by omega), x1]
    have v2' : K1 80 (f + 2) = nI b := by rw [hM.2.2.2 _ (by omega), x2]
    rw [z1, if_neg (by decide), hM.2.2.1, i_sub (by omega), i_sub (by omega), r_75_15, g_80 (by omega), o_g_t, i_cl (by omega), show f + 3 - 2 = f + 1 by omega, v1', o_b1_s, g_80 (by omega), o_g_t, i_cl (by omega), show f + 3 - 1 = f + 2 by omega, v2', o_b1_s, o_b1_s]
    unfold bdp
    dsimp only
    rw [if_neg (show ¬ (4:Nat) = 2 by decide), if_neg (show ¬ (4:Nat) = 3 by decide), if_pos rfl, x1, x2, i_cl (by omega), i_cl (by omega)]
    generalize va_up (va_up (va_up N f (nI k9)) (f + 1) (nI a)) (f + 2) (nI b) = N9 at h1 hM ⊢
    generalize hMM : (100:Nat) = M
    generalize hfs : f + 3 = fs at h1 hM w2 ⊢
    rw [z1] at h1
    have hp2 : 2 ^ a ≤ 256 := p2_le u3
    refine wp_s4 (wp_lp (fun i s => ∃ p f N, ssi T n a b fs (.inr (q9, fs, N9)) i = .inr (p, f, N) ∧ f = fs + 2 * i ∧ RL K0 n (nI 1) s.2 (.inr (p, f, N)) ∧ ((s.1 = nI 1 ∧ (i = 0 ∨ gos T n (.inr (p, f, N)) = true)) ∨ (s.1 = nI 0 ∧ 1 ≤ i ∧ ¬ gos T n (.inr (p, f, N)) = true))) 0 60 (Nat.zero_le _) (by omega) ⟨q9, fs, N9, rfl, rfl, h1, Or.inl ⟨rfl, Or.inl rfl⟩⟩ ?_ ?_)
    · rintro i ⟨v, K2⟩ hi ⟨p, f, N, g1, g2, g3, g4⟩
      dsimp only at g3 g4
      obtain ⟨-, b1, b2, hC⟩ := id g3
      unfold m_216_b41
      dsimp only
      rcases g4 with ⟨rfl, g4⟩ | ⟨rfl, g4, g5⟩
      · have sx : ssi T n a b fs (.inr (q9, fs, N9)) (i + 1) = sst T n a b fs (.inr (p, f, N)) := by
          show (if i = 0 ∨ gos T n (ssi T n a b fs (.inr (q9, fs, N9)) i) = true then sst T n a b fs (ssi T n a b fs (.inr (q9, fs, N9)) i) else ssi T n a b fs (.inr (q9, fs, N9)) i) = sst T n a b fs (.inr (p, f, N))
          rw [g1]
          exact if_pos g4
        have bad : ∀ e, sst T n a b fs (.inr (p, f, N)) = .inl e → ssi T n a b fs (.inr (q9, fs, N9)) M = .inl e := fun e he => by
          rw [show M = i + 1 + (M - (i + 1)) by omega, ssi_e (by omega) (by rw [sx, he]; exact fun h => by cases h), sx, he]
        rw [if_neg (show ¬ nI 1 = 0 by decide)]
        refine wp_b2 (s_212' (lo := nI 0) (hi := nI 255) (T := T) hT g3 ?_)
        intro v3 K3 h3 k3
        dsimp only
        cases e3 : rn T n (nI 0) (nI 255) (.inr (p, f, N)) with
        | inl e =>
          rw [e3] at h3
          rw [h3.1, q_00, wp_s, lq_r, lq_l, m_216_x41_57, wp_s, bad e (sst_e e3)]
          exact ⟨rfl, h3.2⟩
        | inr y =>
          obtain ⟨p1, f1, N1⟩ := y
          rw [e3] at h3 k3
          obtain ⟨z3, c1, c2, hC3⟩ := id h3
          obtain ⟨k37, k38⟩ := k3 _ rfl
          obtain ⟨w1', w2', w3', w4'⟩ : f1 = f + 1 ∧ (nI 0 ≤ N1 (f1 - 1) ∧ N1 (f1 - 1) ≤ nI 255) ∧ p + 2 ≤ p1 ∧ p1 ≤ n := by
            obtain ⟨p', f', N', v', q', hh1, hh2, hh3, hh4, hh5, hh6, -⟩ := rn_s e3
            cases hh1
            cases hh2
            exact ⟨rfl, by rw [Nat.add_sub_cancel, up_eq]; exact ⟨hh3, hh4⟩, hh5, hh6⟩
          obtain ⟨k, -, k1, k2⟩ := in_nI (by decide) (by decide) w2'.1 w2'.2
          rw [z3, if_neg (show ¬ nI 1 = 0 by decide)]
          have k37' : K3 75 7 = N1 (f1 - 1) := k37
          refine s_216i (i := i) (f1 := f1) (N1 := N1) (K0 := K0) (n := n) (by omega) (by omega) hC3.2.2.1 k37' hC3.2.2.2 ?_
          intro v5 h5
          have six : ¬ okS a b fs f1 N1 → wp (o_b2 (m_209 75 (nI 6) (K3 75 8) K3) (fun r_103 I_103 => o_g (o_bz r_103) (some (r_103, I_103)))) (fun r => RL K0 n r.1 r.2 (ssi T n a b fs (.inr (q9, fs, N9)) M)) := fun hb => by
            rw [bad (fa 6 (p + 1)) (by rw [sst_s e3, cif_f hb])]
            exact RL_6 h3 k38
          unfold m_216_x65_111
          rcases h5 with ⟨rfl, h5⟩ | ⟨rfl, h5⟩
          · rw [if_neg (show ¬ nI 1 = 0 by decide), wp_s, lq_r, lq_r, lq_l]
            exact six (fun ⟨k', a1, a2, a3, a4, a5⟩ => by
              obtain ⟨j, j1, j2⟩ := h5
              exact a5 j j1 (by rw [j2, a2]))
          · rw [if_pos (show nI 0 = 0 from rfl), k37', k2, s_193 (by omega), o_b1_s]
            by_cases c3 : pc k = b
            · rw [if_pos (show nI (pc k) = nI b by rw [c3]), show nI 1 <<< (nI a &&& 31) = nI (2 ^ a) by rw [i_shl (by decide) (by omega), Nat.one_mul]]
              by_cases c4 : k < 2 ^ a
              · have ok : okS a b fs f1 N1 := ⟨k, by omega, k2, c3, c4, fun j j1 j2 => h5 ⟨j, j1, by rw [j2, k2]⟩⟩
                have sx2 : sst T n a b fs (.inr (p, f, N)) = rn T n (-1000000) (nI 1000000) (.inr (p1, f1, N1)) := by rw [sst_s e3, cif_t ok]
                rw [if_pos (nI_lt c4 (by omega))]
                refine wp_b2 (s_212' (lo := -1000000) (hi := nI 1000000) (T := T) hT h3 ?_)
                intro v6 K6 h6 k6
                dsimp only
                cases e6 : rn T n (-1000000) (nI 1000000) (.inr (p1, f1, N1)) with
                | inl e =>
                  rw [e6] at h6
                  rw [h6.1, q_00, wp_s, lq_r, lq_r, lq_r, lq_l, m_216_x41_159, wp_s, bad e (by rw [sx2, e6])]
                  exact ⟨rfl, h6.2⟩
                | inr y6 =>
                  obtain ⟨p6, f6, N6⟩ := y6
                  rw [e6] at h6 sx2
                  obtain ⟨z6, d1, d2, hC6⟩ := id h6
                  have hf6 : f6 = f1 + 1 := by
                    obtain ⟨p', f', N', v', q', hh1, hh2, -⟩ := rn_s e6
                    cases hh1
                    cases hh2
                    rfl
                  rw [z6] at h6
                  rw [z6, if_neg (show ¬ nI 1 = 0 by decide), s_208 hT d1 hC6, o_b1_s]
                  by_cases c7 : isA T n p6 32 = true
                  · rw [if_pos ((sg_eq hT3 (by decide)).2 c7), wp_s, lq_l]
                    exact ⟨p6, f6, N6, by rw [sx, sx2], by omega, h6, Or.inl ⟨rfl, Or.inr c7⟩⟩
                  · rw [if_neg (fun h => c7 ((sg_eq hT3 (by decide)).1 h)), wp_s, lq_l]
                    exact ⟨p6, f6, N6, by rw [sx, sx2], by omega, h6, Or.inr ⟨rfl, by omega, c7⟩⟩
              · rw [if_neg (nI_nlt (by omega) (by omega)), wp_s, lq_r, lq_r, lq_l]
                exact six (fun ⟨k', a1, a2, a3, a4, _⟩ => by
                  rw [k2, i_eq (by omega) (by omega)] at a2
                  omega)
            · rw [if_neg (show ¬ nI (pc k) = nI b by
                have := pc_le k
                rw [i_eq (by omega) (by omega)]
                exact c3), wp_s, lq_r, lq_r, lq_l]
              exact six (fun ⟨k', a1, a2, a3, a4, _⟩ => by
                rw [k2, i_eq (by omega) (by omega)] at a2
                exact c3 (by rw [a2]; exact a3))
      · rw [q_00, wp_s, lq_r, lq_r, lq_r, lq_r, m_216_x41_180, wp_s, show M = i + (M - i) by omega, ssi_e g4 (by rw [g1]; exact g5), g1]
        exact g3
    · rintro ⟨v, K2⟩ ⟨p, f, N, g1, g2, g3, g4⟩
      obtain ⟨-, b1, b2, hC⟩ := id g3
      omega
