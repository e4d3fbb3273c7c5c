/-! A text is read, by the reference. -/
def RFR (I K : ai_I) : Prop := (∀ c, ¬ c = 75 → ¬ c = 79 → ¬ c = 80 → K c = I c) ∧ ∀ j, ¬ j = 4 → ¬ j = 6 → ¬ j = 7 → ¬ j = 8 → ¬ j = 9 → ¬ j = 10 → ¬ j = 11 → K 75 j = I 75 j
def RRs (I K : ai_I) (v : Int32) (J : ai_J) : Int32 ⊕ (Nat × MT) → Prop
  | .inl e => v = nI 0 ∧ RFR I K ∧ K 75 6 = e
  | .inr (m, ks, st, _, f, N) => v = nI 1 ∧ RFR I K ∧ K 75 10 = nI m ∧ m ≤ 16 ∧ (∀ k, k < m → J 78 k = WC (ks k) ∧ ks k < 14 ∧ K 79 k = nI (st k)) ∧ K 75 11 = nI f ∧ f ≤ 100 ∧ ∀ j, j < f → K 80 j = N j
/-- behind clause i, which was read without a fault -/
def bsi (I K : ai_I) (J : ai_J) (T : Nat → Nat) (n i : Nat) : Prop := ∃ ks st p f N q f1 N1, rsq T n i = .inr (.inl (ks, st, p, f, N)) ∧ clp T n p f N = .inr (q, f1, N1) ∧ RFR I K ∧ q ≤ n ∧ 2 * f1 ≤ q ∧ K 75 4 = nI q ∧ K 75 11 = nI f1 ∧ K 75 10 = nI (i + 1) ∧ (∀ j, j < f1 → K 80 j = N1 j) ∧ ∀ k, k < i + 1 → J 78 k = WC (va_up ks i (kdw T p (wend T n p)) k) ∧ va_up ks i (kdw T p (wend T n p)) k < 14 ∧ K 79 k = nI (va_up st i f k)
theorem s_218c {I K : ai_I} {J : ai_J} {t L n p f i M : Nat} {T : Nat → Nat} {ks st : Nat → Nat} {N : Nat → Int32} {Q : Int32 × ai_I × ai_J → Prop} (hM : M = 16) (hi : i < 16) (hT : TR I T n) (hF : RFR I K) (hr : rsq T n i = .inr (.inl (ks, st, p, f, N))) (hp : p ≤ n) (hf : 2 * f ≤ p) (h4 : K 75 4 = nI p) (h10 : K 75 10 = nI i) (h11 : K 75 11 = nI f) (hN : ∀ j, j < f → K 80 j = N j) (old : ∀ k, k < i → J 78 k = WC (ks k) ∧ ks k < 14 ∧ K 79 k = nI (st k)) (h0 : ∀ e K2 J2, rtx T n M = .inl e → RFR I K2 → K2 75 6 = e → Q (nI 0, K2, J2)) (h1 : ∀ K2 J2, bsi I K2 J2 T n i → Q (nI 1, K2, J2)) : wp (m_217 75 K J (Rc t) (Gc L)) Q := by
  have hTK : TR K T n := ⟨by rw [hF.2 5 (by decide) (by decide) (by decide) (by decide) (by decide) (by decide) (by decide)]; exact hT.1, hT.2.1, fun j hj => ⟨(hT.2.2 j hj).1, by rw [hF.1 77 (by decide) (by decide) (by decide)]; exact (hT.2.2 j hj).2⟩⟩
  refine wp_mono (s_217 hi hTK hp hf h10 ⟨⟨fun _ _ _ => rfl, fun _ _ _ _ _ _ => rfl⟩, h4, h11, hN⟩) ?_
  rintro ⟨v, K2, J2⟩ h
  have fr : RFr K K2 i → RFR I K2 := fun hh => ⟨fun c c1 c2 c3 => (hh.1 c c1 c2 c3).trans (hF.1 c c1 c2 c3), fun j j1 j2 j3 j4 j5 j6 j7 => (hh.2.1 j j1 j2 j3 j4 j5 j6 j7).trans (hF.2 j j1 j2 j3 j4 j5 j6 j7)⟩
  cases hc : clp T n p f N with
  | inl e =>
    rw [hc] at h
    obtain ⟨rfl, b1, b2⟩ := h
    refine h0 e K2 J2 (rtx_e (i := i + 1) (by omega) ?_) (fr b1) b2
    show nxt T n i (rsq T n i) = _
    rw [hr]
    unfold nxt
    dsimp only
    rw [hc]
  | inr y =>
    obtain ⟨q, f1, N1⟩ := y
    rw [hc] at h
    obtain ⟨rfl, b1, b2, b3, b4, b5, b6, b7, b8, b9, b10, b11⟩ := h
    dsimp only at b1 b2 b3 b7 b8 b9 b10 b11
    refine h1 K2 J2 ⟨ks, st, p, f, N, q, f1, N1, hr, hc, fr b1, b5, b6, b7, b8, b9, b11, fun k hk => ?_⟩
    by_cases e : k = i
    · subst e
      rw [up_eq, up_eq]
      exact ⟨b3, b4, b10⟩
    · rw [up_ne e, up_ne e, b2 k e, b1.2.2 k e]
      exact old k (by omega)
theorem s_218r {I : ai_I} {J : ai_J} {t L n M : Nat} {T : Nat → Nat} {γ : Type} {Q : γ → Prop} {g : Int32 × ai_I × ai_J → Option γ} (hM : M = 16) (hT : TR I T n) (h4 : I 75 4 = nI 0) (h10 : I 75 10 = nI 0) (h11 : I 75 11 = nI 0) (hg : ∀ v K J2, RRs I K v J2 (rtx T n M) → wp (g (v, K, J2)) Q) : wp (o_b3 (m_217 75 I J (Rc t) (Gc L)) (fun r_48 I_48 J_48 => o_s1 (lp (fun s => m_218_b52 75 (Rc t) (Gc L) s.1 s.2.1 s.2.2) o_N (r_48, I_48, J_48)) g)) Q := by
  have hn := hT.2.1
  have hT3 : ∀ k, k < n → T k < 256 := fun k hk => (hT.2.2 k hk).1
  have loop : ∀ s0 : Int32 × ai_I × ai_J, ((∃ e, s0.1 = nI 0 ∧ rtx T n M = .inl e ∧ RFR I s0.2.1 ∧ s0.2.1 75 6 = e) ∨ (0 < 16 ∧ s0.1 = nI 1 ∧ bsi I s0.2.1 s0.2.2 T n 0)) → wp (o_s1 (lp (fun s => m_218_b52 75 (Rc t) (Gc L) s.1 s.2.1 s.2.2) o_N s0) g) Q := fun s0 h0 => by
    refine wp_s1 (wp_lp (fun i s => (∃ e, s.1 = nI 0 ∧ rtx T n M = .inl e ∧ RFR I s.2.1 ∧ s.2.1 75 6 = e) ∨ (i < 16 ∧ s.1 = nI 1 ∧ bsi I s.2.1 s.2.2 T n i)) 0 16 (Nat.zero_le _) (by omega) h0 ?_ ?_)
    · rintro i ⟨v, K, W⟩ hi hP
      unfold m_218_b52
      dsimp only at hP ⊢
      rcases hP with ⟨e, rfl, e1, e2, e3⟩ | ⟨-, rfl, ks, st, p, f, N, q, f1, N1, b1, b2, b3, b4, b5, b6, b7, b8, b9, b10⟩
      · rw [q_00, wp_s, lq_r]
        exact hg _ _ _ (by rw [e1]; exact ⟨rfl, e2, e3⟩)
      · have hnx : rsq T n (i + 1) = nxt T n i (.inr (.inl (ks, st, p, f, N))) := by
          show nxt T n i (rsq T n i) = _
          rw [b1]
        rw [if_neg (show ¬ nI 1 = 0 by decide)]
        have h5 : K 75 5 = nI n := by rw [b3.2 5 (by decide) (by decide) (by decide) (by decide) (by decide) (by decide) (by decide)]; exact hT.1
        by_cases c : q < n
        · rw [if_neg (show ¬ K 75 5 ≤ K 75 4 by rw [h5, b6]; exact nI_ge c (by omega))]
          have hTK : TR K T n := ⟨h5, hn, fun j hj => ⟨hT3 j hj, by rw [b3.1 77 (by decide) (by decide) (by decide)]; exact (hT.2.2 j hj).2⟩⟩
          have hRM : RM K K q f1 N1 := ⟨⟨fun _ _ _ => rfl, fun _ _ _ _ _ _ => rfl⟩, b6, b7, b9⟩
          unfold m_210
          rw [s_208 hTK b4 hRM, o_b1_s]
          by_cases c2 : T q = 59
          · rw [if_pos ((sg_eq hT3 (by decide)).2 (isA_i.2 ⟨c, c2⟩)), o_b1_s, o_b2_s, if_neg (show ¬ nI 1 = 0 by decide), b6, i_add]
            have hn2 : rsq T n (i + 1) = .inr (.inl (va_up ks i (kdw T p (wend T n p)), va_up st i f, q + 1, f1, N1)) := by
              rw [hnx]
              unfold nxt
              dsimp only
              rw [b2]
              dsimp only
              rw [if_pos c, if_pos c2]
            have hF : RFR I (va_up K 75 (va_up (K 75) 4 (nI (q + 1)))) := ⟨fun c c1 c2 c3 => by rw [up_ne c1]; exact b3.1 c c1 c2 c3, fun j j1 j2 j3 j4 j5 j6 j7 => by rw [up_eq, up_ne j1]; exact b3.2 j j1 j2 j3 j4 j5 j6 j7⟩
            refine wp_b3 ?_
            by_cases c3 : i + 1 = 16
            · unfold m_217
              rw [if_pos (show va_up K 75 (va_up (K 75) 4 (nI (q + 1))) 75 10 = nI 16 by rw [up_eq, up_ne (by decide), b8, c3]), show va_up K 75 (va_up (K 75) 4 (nI (q + 1))) 75 4 = nI (q + 1) by rw [up_eq, up_eq], s_209, o_b2_s, bz0, o_g_t, wp_s, q_00, wp_s, lq_l]
              have hr : rtx T n M = .inl (fa 4 (q + 1)) := by
                rw [c3] at hn2
                unfold rtx
                rw [hM, hn2]
              exact Or.inl ⟨_, rfl, hr, ⟨fun c c1 c2 c3 => by dsimp only; rw [up_ne c1]; exact hF.1 c c1 c2 c3, fun j j1 j2 j3 j4 j5 j6 j7 => by dsimp only; rw [up_eq, up_ne j2]; exact hF.2 j j1 j2 j3 j4 j5 j6 j7⟩, by dsimp only; rw [up_eq, up_eq]⟩
            · refine s_218c (i := i + 1) hM (by omega) hT hF hn2 (by omega) (by omega) (by rw [up_eq, up_eq]) (by rw [up_eq, up_ne (by decide)]; exact b8) (by rw [up_eq, up_ne (by decide)]; exact b7) (fun j hj => by rw [up_ne (by decide)]; exact b9 j hj) (fun k hk => ?_) (fun e K2 J2 e1 e2 e3 => ?_) (fun K2 J2 hb => ?_)
              · obtain ⟨o1, o2, o3⟩ := b10 k hk
                exact ⟨o1, o2, by rw [up_ne (by decide)]; exact o3⟩
              · rw [q_00, wp_s, lq_l]
                exact Or.inl ⟨e, rfl, e1, e2, e3⟩
              · rw [if_neg (show ¬ nI 1 = 0 by decide), wp_s, lq_l]
                exact Or.inr ⟨by omega, rfl, hb⟩
          · rw [if_neg (fun h => c2 (isA_i.1 ((sg_eq hT3 (by decide)).1 h)).2), b6, s_209, o_b2_s, bz0, o_g_t, o_b2_s, q_00, wp_s, lq_l]
            have hr : rtx T n M = .inl (fa 1 q) := rtx_e (i := i + 1) (by omega) (by
              rw [hnx]
              unfold nxt
              dsimp only
              rw [b2]
              dsimp only
              rw [if_pos c, if_neg c2])
            exact Or.inl ⟨_, rfl, hr, ⟨fun c c1 c2 c3 => by dsimp only; rw [up_ne c1]; exact b3.1 c c1 c2 c3, fun j j1 j2 j3 j4 j5 j6 j7 => by dsimp only; rw [up_eq, up_ne j2]; exact b3.2 j j1 j2 j3 j4 j5 j6 j7⟩, by dsimp only; rw [up_eq, up_eq]⟩
        · rw [if_pos (show K 75 5 ≤ K 75 4 by rw [h5, b6]; exact nI_le (by omega) (by omega)), wp_s, lq_r]
          have hr : rtx T n M = .inr (i + 1, va_up ks i (kdw T p (wend T n p)), va_up st i f, q, f1, N1) := rtx_d (i := i + 1) (by omega) (by
            rw [hnx]
            unfold nxt
            dsimp only
            rw [b2]
            exact if_neg c)
          exact hg _ _ _ (by rw [hr]; exact ⟨rfl, b3, b8, by omega, b10, b7, by omega, b9⟩)
    · rintro ⟨v, K, W⟩ hP
      rcases hP with ⟨e, e0, e1, e2, e3⟩ | ⟨h, -⟩
      · dsimp only at e0 e2 e3
        subst e0
        unfold m_218_b52
        dsimp only
        rw [q_00, wp_s, lq_r]
        exact hg _ _ _ (by rw [e1]; exact ⟨rfl, e2, e3⟩)
      · omega
  refine wp_b3 ?_
  exact s_218c (i := 0) (ks := fun _ => 0) (st := fun _ => 0) (p := 0) (f := 0) (N := fun _ => 0) hM (by decide) hT ⟨fun _ _ _ _ => rfl, fun _ _ _ _ _ _ _ _ => rfl⟩ rfl (Nat.zero_le _) (Nat.le_refl _) h4 h10 h11 (fun j hj => absurd hj (Nat.not_lt_zero _)) (fun j hj => absurd hj (Nat.not_lt_zero _)) (fun e K2 J2 e1 e2 e3 => loop _ (Or.inl ⟨e, rfl, e1, e2, e3⟩)) (fun K2 J2 hb => loop _ (Or.inr ⟨by decide, rfl, hb⟩))
