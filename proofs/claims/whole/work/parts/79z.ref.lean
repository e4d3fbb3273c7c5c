/-! Heads, weights, edges: read by the reference. -/
theorem wp_b3 {α α2 α3 γ : Type} {x : Option (α × α2 × α3)} {f : α → α2 → α3 → Option γ} {Q : γ → Prop} (h : wp x (fun a => wp (f a.1 a.2.1 a.2.2) Q)) : wp (o_b3 x f) Q := by
  obtain ⟨a, rfl, h⟩ := h
  exact h
theorem wp_s4 {α α2 α3 α4 γ : Type} {x : Option (α ⊕ α2 ⊕ α3 ⊕ α4)} {f : α → Option γ} {f2 : α2 → Option γ} {f3 : α3 → Option γ} {f4 : α4 → Option γ} {Q : γ → Prop} (h : wp x (lq (fun a => wp (f a) Q) (lq (fun a => wp (f2 a) Q) (lq (fun a => wp (f3 a) Q) (fun a => wp (f4 a) Q))))) : wp (o_s4 x f f2 f3 f4) Q := by
  obtain ⟨a, rfl, h⟩ := h
  rcases a with a | a | a | a
  · exact h
  · exact h
  · exact h
  · exact h
abbrev MT2 := Nat × Nat × (Nat → Int32)
theorem s_212' {K0 K : ai_I} {t L n : Nat} {T : Nat → Nat} {x : MT2} {q lo hi : Int32} {Q : Int32 × ai_I → Prop} (hT : TR K0 T n) (h : RL K0 n q K (.inr x)) (hQ : ∀ v K', RL K0 n v K' (rn T n lo hi (.inr x)) → (∀ y, rn T n lo hi (.inr x) = .inr y → K' 75 7 = lst (rn T n lo hi (.inr x)) ∧ K' 75 8 = nI (x.1 + 1)) → Q (v, K')) : wp (m_212 75 lo hi K (Rc t) (Gc L)) Q := by
  obtain ⟨p, f, N⟩ := x
  obtain ⟨h1, h2, h3, h4⟩ := h
  exact wp_mono (s_212 (lo := lo) (hi := hi) hT h2 h3 h4) (fun a ha => hQ a.1 a.2 ha.1 ha.2)
theorem s_213 {K0 K : ai_I} {t L n : Nat} {T : Nat → Nat} {x : MT2} {q : Int32} (hT : TR K0 T n) (h : RL K0 n q K (.inr x)) : wp (m_213 75 K (Rc t) (Gc L)) (fun r => RL K0 n r.1 r.2 (rr T n (.inr x))) := by
  unfold m_213 rr
  refine wp_b2 (s_212' (T := T) hT h ?_)
  intro v1 K1 h1 _
  dsimp only
  cases e1 : rn T n (nI 0) (nI 3) (.inr x) with
  | inl e =>
    rw [e1] at h1
    rw [h1.1, q_00, wp_s]
    exact ⟨rfl, h1.2⟩
  | inr x1 =>
    rw [e1] at h1
    have z1 : v1 = nI 1 := h1.1
    rw [z1, if_neg (by decide)]
    refine wp_b2 (s_212' (T := T) hT h1 ?_)
    intro v2 K2 h2 k2
    dsimp only
    cases e2 : rn T n (nI 2) (nI 8) (.inr x1) with
    | inl e =>
      rw [e2] at h2
      rw [h2.1, q_00, wp_s]
      exact ⟨rfl, h2.2⟩
    | inr x2 =>
      rw [e2] at h2 k2
      have z2 : v2 = nI 1 := h2.1
      rw [z2, if_neg (by decide), (k2 _ rfl).1]
      refine wp_b2 (s_212' (T := T) hT h2 ?_)
      intro v3 K3 h3 k3
      dsimp only
      cases e3 : rn T n (nI 1) (lst (.inr x2) - nI 1) (.inr x2) with
      | inl e =>
        rw [e3] at h3
        rw [h3.1, q_00, wp_s]
        exact ⟨rfl, h3.2⟩
      | inr x3 =>
        rw [e3] at h3
        have z3 : v3 = nI 1 := h3.1
        rw [z3, if_neg (by decide), wp_s]
        rw [z3] at h3
        exact h3
theorem s_214 {K0 K : ai_I} {t L n f : Nat} {T : Nat → Nat} {p : Nat} {N : Nat → Int32} {q : Int32} (hT : TR K0 T n) (h : RL K0 n q K (.inr (p, f, N))) : wp (m_214 75 K (Rc t) (Gc L)) (fun r => RL K0 n r.1 r.2 (bdp T n 2 f (hdp T n 2 (.inr (p, f, N))))) := by
  have hn := hT.2.1
  show wp (m_214 75 K (Rc t) (Gc L)) (fun r => RL K0 n r.1 r.2 (bdp T n 2 f (rr T n (.inr (p, f, N)))))
  unfold m_214
  refine wp_b2 (wp_mono (s_213 hT h) ?_)
  rintro ⟨v1, K1⟩ h1
  dsimp only at h1 ⊢
  cases e1 : rr T n (.inr (p, f, N)) with
  | inl e =>
    rw [e1] at h1
    rw [h1.1, q_00, wp_s]
    exact ⟨rfl, h1.2⟩
  | inr y =>
    obtain ⟨p9, f9, N9, q9, k9, a, b, e5, rfl, u1, u2, u3, u4, u5, u6, u7⟩ := rr_s e1
    cases e5
    rw [e1] at h1
    obtain ⟨z1, w1, w2, hM⟩ := id h1
    have x1 : va_up (va_up (va_up N f (nI k9)) (f + 1) (nI a)) (f + 2) (nI b) (f + 1) = nI a := by rw [up_ne (by omega), up_eq]
    have x2 : va_up (va_up (va_up N f (nI k9)) (f + 1) (nI a)) (f + 2) (nI b) (f + 2) = nI b := by rw [up_eq]
    have v1' : K1 80 (f + 1) = nI a := by rw [hM.2.2.2 _ (by omega), x1]
    have v2' : K1 80 (f + 2) = nI b := by rw [hM.2.2.2 _ (by omega), x2]
    have hab : a * b ≤ 56 := by
      have := Nat.mul_le_mul u3 (show b ≤ 7 by omega)
      omega
    rw [z1, if_neg (by decide), hM.2.2.1, i_sub (by omega), i_sub (by omega), r_75_15, g_80 (by omega), o_g_t, g_80 (by omega), o_g_t, i_cl (by omega), i_cl (by omega), show f + 3 - 2 = f + 1 by omega, show f + 3 - 1 = f + 2 by omega, v1', v2', i_mul, o_b1_s]
    unfold bdp
    dsimp only
    rw [if_pos rfl, x1, x2, i_cl (by omega), i_cl (by omega)]
    generalize hs0 : (Sum.inr (q9, f + 3, va_up (va_up (va_up N f (nI k9)) (f + 1) (nI a)) (f + 2) (nI b)) : RS) = s0 at h1 ⊢
    rw [z1] at h1
    refine wp_s1 (wp_lp (fun i s => s.2.1 = nI i ∧ (s.1 = nI 0 ∨ s.1 = nI 1) ∧ RL K0 n s.1 s.2.2 (wt T n s0 i)) 0 (a * b) (Nat.zero_le _) (by omega) ⟨rfl, Or.inr rfl, h1⟩ ?_ ?_)
    · rintro i ⟨g, c, M⟩ hi ⟨g1, g2, g3⟩
      dsimp only at g1 g2 g3
      subst g1
      unfold m_214_b37
      dsimp only
      rw [if_neg (nI_ge hi (by omega))]
      cases hs : wt T n s0 i with
      | inl e =>
        rw [hs] at g3
        obtain ⟨z, zz⟩ := id g3
        subst z
        rw [if_pos (show nI 0 = 0 from rfl), wp_s, lq_r]
        unfold m_214_x37_63
        dsimp only
        rw [bz0, o_g_t, wp_s, show a * b = i + (a * b - i) by omega, wt_e hs]
        exact g3
      | inr y =>
        rw [hs] at g3
        have z : g = nI 1 := g3.1
        rw [z, if_neg (show ¬ nI 1 = 0 by decide)]
        refine wp_b2 (s_212' (lo := -999) (hi := nI 999) (T := T) hT g3 ?_)
        intro v3 K3 h3 _
        rw [i_add, o_b1_s, wp_s, lq_l]
        refine ⟨rfl, ?_, ?_⟩
        · dsimp only
          cases hr : rn T n (-999) (nI 999) (.inr y) with
          | inl e =>
            rw [hr] at h3
            exact Or.inl h3.1
          | inr y =>
            rw [hr] at h3
            exact Or.inr h3.1
        · show RL K0 n v3 K3 (rn T n (-999) (nI 999) (wt T n s0 i))
          rw [hs]
          exact h3
    · rintro ⟨g, c, M⟩ ⟨g1, g2, g3⟩
      dsimp only at g1 g2 g3
      subst g1
      unfold m_214_b37
      dsimp only
      rw [if_pos (Int32.le_refl _), wp_s, lq_r]
      unfold m_214_x37_63
      dsimp only
      rcases g2 with rfl | rfl
      · rw [bz0, o_g_t, wp_s]
        exact g3
      · rw [bz1, o_g_t, wp_s]
        exact g3
theorem RL_6 {K0 K : ai_I} {n a : Nat} {x : MT2} {q : Int32} (h : RL K0 n q K (.inr x)) (h8 : K 75 8 = nI a) : wp (o_b2 (m_209 75 (nI 6) (K 75 8) K) (fun r_103 I_103 => o_g (o_bz r_103) (some (r_103, I_103)))) (fun r => RL K0 n r.1 r.2 (.inl (fa 6 a))) := by
  rw [h8, s_209, o_b2_s, bz0, o_g_t, wp_s]
  exact ⟨rfl, by dsimp only; rw [up_eq, up_eq], RF_up h.2.2.2.1 (by omega)⟩
theorem s_215 {K0 K : ai_I} {t L n f : Nat} {T : Nat → Nat} {p : Nat} {N : Nat → Int32} {q : Int32} (hT : TR K0 T n) (h : RL K0 n q K (.inr (p, f, N))) : wp (m_215 75 K (Rc t) (Gc L)) (fun r => RL K0 n r.1 r.2 (bdp T n 3 f (hdp T n 3 (.inr (p, f, N))))) := by
  have hn := hT.2.1
  show wp (m_215 75 K (Rc t) (Gc L)) (fun r => RL K0 n r.1 r.2 (bdp T n 3 f (gg T n (.inr (p, f, N)))))
  unfold m_215
  refine wp_b2 (s_212' (T := T) hT h ?_)
  intro v1 K1 h1 _
  dsimp only
  cases e1 : rn T n (nI 0) (nI 3) (.inr (p, f, N)) with
  | inl e =>
    rw [e1] at h1
    have eg : gg T n (.inr (p, f, N)) = .inl e := by unfold gg; rw [e1]; rfl
    rw [h1.1, q_00, wp_s, eg]
    exact ⟨rfl, h1.2⟩
  | inr x1 =>
    rw [e1] at h1
    have z1 : v1 = nI 1 := h1.1
    rw [z1, if_neg (by decide)]
    refine wp_b2 (s_212' (T := T) hT h1 ?_)
    intro v2 K2 h2 k2
    dsimp only
    cases e2 : rn T n (nI 2) (nI 8) (.inr x1) with
    | inl e =>
      rw [e2] at h2
      have eg : gg T n (.inr (p, f, N)) = .inl e := by unfold gg; rw [e1, e2]; rfl
      rw [h2.1, q_00, wp_s, eg]
      exact ⟨rfl, h2.2⟩
    | inr x2 =>
      rw [e2] at h2 k2
      have z2 : v2 = nI 1 := h2.1
      rw [z2, if_neg (by decide)]
      refine wp_b2 (s_212' (T := T) hT h2 ?_)
      intro v3 K3 h3 k3
      dsimp only
      have eg : gg T n (.inr (p, f, N)) = rn T n (nI 2) (nI 6) (.inr x2) := by unfold gg; rw [e1, e2]
      cases e3 : rn T n (nI 2) (nI 6) (.inr x2) with
      | inl e =>
        rw [e3] at h3
        rw [h3.1, q_00, wp_s, eg, e3]
        exact ⟨rfl, h3.2⟩
      | inr y =>
        rw [e3] at h3 k3 eg
        have z3 : v3 = nI 1 := h3.1
        obtain ⟨p9, f9, N9, q9, k9, a, b, e5, rfl, u1, u2, u3, u4, u5, u6, u7⟩ := gg_s eg
        cases e5
        have k37 := (k3 _ rfl).1
        obtain ⟨-, w1, w2, hM⟩ := id h3
        have x1 : va_up (va_up (va_up N f (nI k9)) (f + 1) (nI a)) (f + 2) (nI b) (f + 1) = nI a := by rw [up_ne (by omega), up_eq]
        have x2' : va_up (va_up (va_up N f (nI k9)) (f + 1) (nI a)) (f + 2) (nI b) (f + 2) = nI b := by rw [up_eq]
        have k37' : K3 75 7 = nI b := k37.trans x2'
        have v1' : K3 80 (f + 1) = nI a := by rw [hM.2.2.2 _ (by omega), x1]
        rw [z3, if_neg (by decide), hM.2.2.1, i_sub (by omega), r_75_15, g_80 (by omega), o_g_t, i_cl (by omega), show f + 3 - 2 = f + 1 by omega, v1', o_b1_s, k37', o_b1_s, eg]
        unfold bdp
        dsimp only
        rw [if_neg (show ¬ (3:Nat) = 2 by decide), if_pos rfl, x1, x2', i_cl (by omega)]
        generalize hs0 : (Sum.inr (q9, f + 3, va_up (va_up (va_up N f (nI k9)) (f + 1) (nI a)) (f + 2) (nI b)) : RS) = s0 at h3 ⊢
        rw [z3] at h3
        refine wp_s4 (wp_lp (fun i s => s.1 = nI i ∧ ∃ y, egs T n (nI b - nI 1) s0 i = .inr y ∧ RL K0 n (nI 1) s.2 (.inr y)) 0 a (Nat.zero_le _) (by omega) ⟨rfl, (q9, f + 3, va_up (va_up (va_up N f (nI k9)) (f + 1) (nI a)) (f + 2) (nI b)), hs0.symm, by rw [hs0]; exact h3⟩ ?_ ?_)
        · rintro i ⟨c, M⟩ hi ⟨g1, y, g2, g3⟩
          dsimp only at g1 g3
          subst g1
          have bad : ∀ e, egs T n (nI b - nI 1) s0 (i + 1) = .inl e → egs T n (nI b - nI 1) s0 a = .inl e := fun e he => by
            rw [show a = i + 1 + (a - (i + 1)) by omega, egs_e he]
          have sx : egs T n (nI b - nI 1) s0 (i + 1) = eg1 T n (nI b - nI 1) (.inr y) := by
            show eg1 T n (nI b - nI 1) (egs T n (nI b - nI 1) s0 i) = _
            rw [g2]
          unfold m_215_b50
          dsimp only
          rw [if_neg (nI_ge hi (by omega))]
          refine wp_b2 (s_212' (lo := nI 0) (hi := nI b - nI 1) (T := T) hT g3 ?_)
          intro v4 K4 h4 k4
          dsimp only
          cases e4 : rn T n (nI 0) (nI b - nI 1) (.inr y) with
          | inl e =>
            rw [e4] at h4
            rw [h4.1, q_00, wp_s, lq_r, lq_l, m_215_x50_66, wp_s, bad e (by rw [sx]; unfold eg1; rw [e4])]
            exact ⟨rfl, h4.2⟩
          | inr y4 =>
            rw [e4] at h4 k4
            have z4 : v4 = nI 1 := h4.1
            rw [z4, if_neg (show ¬ nI 1 = 0 by decide), o_b1_s, (k4 _ rfl).1]
            refine wp_b2 (s_212' (lo := nI 0) (hi := nI b - nI 1) (T := T) hT h4 ?_)
            intro v5 K5 h5 k5
            dsimp only
            obtain ⟨p4, f4, N4⟩ := y4
            cases e5 : rn T n (nI 0) (nI b - nI 1) (.inr (p4, f4, N4)) with
            | inl e =>
              rw [e5] at h5
              rw [h5.1, q_00, wp_s, lq_r, lq_r, lq_l, m_215_x50_85, wp_s, bad e (by rw [sx]; unfold eg1; rw [e4]; dsimp only; rw [e5])]
              exact ⟨rfl, h5.2⟩
            | inr y5 =>
              rw [e5] at h5 k5
              obtain ⟨p5, f5, N5⟩ := y5
              have z5 : v5 = nI 1 := h5.1
              obtain ⟨k57, k58⟩ := k5 _ rfl
              rw [z5, if_neg (show ¬ nI 1 = 0 by decide)]
              have ex : egs T n (nI b - nI 1) s0 (i + 1) = if N5 (f5 - 1) = N4 (f4 - 1) then .inl (fa 6 (p4 + 1)) else .inr (p5, f5, N5) := by
                rw [sx]
                unfold eg1
                rw [e4]
                dsimp only
                rw [e5]
              by_cases c : N5 (f5 - 1) = N4 (f4 - 1)
              · rw [if_pos c] at ex
                rw [if_pos (show K5 75 7 = lst (.inr (p4, f4, N4)) from k57.trans c), wp_s, lq_r, lq_r, lq_r, lq_l, bad _ ex]
                exact RL_6 h5 k58
              · rw [if_neg c] at ex
                rw [if_neg (show ¬ K5 75 7 = lst (.inr (p4, f4, N4)) from fun h => c (k57.symm.trans h)), i_add, o_b1_s, wp_s, lq_l]
                rw [z5] at h5
                exact ⟨rfl, _, ex, h5⟩
        · rintro ⟨c, M⟩ ⟨g1, y, g2, g3⟩
          dsimp only at g1 g3
          subst g1
          unfold m_215_b50
          dsimp only
          rw [if_pos (Int32.le_refl _), wp_s, lq_r, lq_r, lq_r, lq_r, m_215_x50_113, wp_s, g2]
          exact g3
