/-! A clause is read, by the reference. -/
def RFr (K K2 : ai_I) (k : Nat) : Prop := (∀ c, ¬ c = 75 → ¬ c = 79 → ¬ c = 80 → K2 c = K c) ∧ (∀ j, ¬ j = 4 → ¬ j = 6 → ¬ j = 7 → ¬ j = 8 → ¬ j = 9 → ¬ j = 10 → ¬ j = 11 → K2 75 j = K 75 j) ∧ ∀ j, ¬ j = k → K2 79 j = K 79 j
def RCl (n k f kd : Nat) (K : ai_I) (J : ai_J) (r : Int32 × ai_I × ai_J) : RS → Prop
  | .inl e => r.1 = nI 0 ∧ RFr K r.2.1 k ∧ r.2.1 75 6 = e
  | .inr (q, f1, N1) => r.1 = nI 1 ∧ RFr K r.2.1 k ∧ (∀ j, ¬ j = k → r.2.2 78 j = J 78 j) ∧ r.2.2 78 k = WC kd ∧ kd < 14 ∧ q ≤ n ∧ 2 * f1 ≤ q ∧ r.2.1 75 4 = nI q ∧ r.2.1 75 11 = nI f1 ∧ r.2.1 75 10 = nI (k + 1) ∧ r.2.1 79 k = nI f ∧ ∀ j, j < f1 → r.2.1 80 j = N1 j
theorem s_212k {K0 K : ai_I} {J2 : ai_J} {t L n : Nat} {T : Nat → Nat} {x : MT2} {q lo hi : Int32} {Q : Int32 × ai_I × ai_J → Prop} {rest : ai_I → Option (Int32 × ai_I × ai_J)} (hT : TR K0 T n) (h : RL K0 n q K (.inr x)) (h1 : ∀ e K', rn T n lo hi (.inr x) = .inl e → RL K0 n (nI 0) K' (.inl e) → Q (nI 0, K', J2)) (h2 : ∀ y K', rn T n lo hi (.inr x) = .inr y → RL K0 n (nI 1) K' (.inr y) → wp (rest K') Q) : wp (o_b2 (m_212 75 lo hi K (Rc t) (Gc L)) (fun r I => if r = 0 then (some ((nI 0), I, J2)) else rest I)) Q := by
  refine wp_b2 (s_212' (lo := lo) (hi := hi) (T := T) hT h ?_)
  intro v K1 k1 _
  dsimp only
  cases e : rn T n lo hi (.inr x) with
  | inl e2 =>
    rw [e] at k1
    rw [k1.1, q_00, wp_s]
    exact h1 e2 K1 e ⟨rfl, k1.2⟩
  | inr y =>
    rw [e] at k1
    have z : v = nI 1 := k1.1
    rw [z, if_neg (show ¬ nI 1 = 0 by decide)]
    rw [z] at k1
    exact h2 y K1 e k1
theorem s_217 {K : ai_I} {J : ai_J} {t L n p f k : Nat} {T : Nat → Nat} {N : Nat → Int32} (hk : k < 16) (hT : TR K T n) (hp : p ≤ n) (hf : 2 * f ≤ p) (e10 : K 75 10 = nI k) (h : RM K K p f N) : wp (m_217 75 K J (Rc t) (Gc L)) (fun r => RCl n k f (kdw T p (wend T n p)) K J r (clp T n p f N)) := by
  have hn := hT.2.1
  have hwl := wend_le (T := T) hp
  have hpw : p ≤ wend T n p := by
    unfold wend
    omega
  unfold m_217
  rw [e10, if_neg (show ¬ nI k = nI 16 by rw [i_eq (by omega) (by decide)]; omega)]
  refine wp_b2 (wp_mono (s_211 hT hp h) ?_)
  rintro ⟨K1, J1⟩ ⟨g1, g2, g3, g4, g5, g6⟩
  dsimp only at g1 g2 g3 g4 g5 g6 ⊢
  have W := wv_kd (T := T) (n := n) (p := p)
  rw [g2 10 (by decide) (by decide), e10, r_75_13, g_78 hk, o_g_t, i_cl (by omega), o_b1_s, r_75_14, g_79 hk, o_g_t, o_b1_s, o_b1_s, up_ne (show ¬ 75 = 79 by decide), up_ne (show ¬ 75 = 78 by decide), g5, o_b1_s]
  generalize hK2 : va_up (va_up K1 79 (va_up (K1 79) k (K1 75 11))) 75 (va_up (K1 75) 10 (K1 75 10 + nI 1)) = K2
  generalize hJ2 : va_up J1 78 (va_up (J1 78) k (wv T p (rnl (ltr T n) p 256))) = J2
  generalize hx1 : wv T p (rnl (ltr T n) p 256) = x1 at W hJ2 ⊢
  have e11 : K1 75 11 = nI f := by rw [g2 11 (by decide) (by decide)]; exact h.2.2.1
  have e10' : K1 75 10 = nI k := by rw [g2 10 (by decide) (by decide)]; exact e10
  have a1 : ∀ c, ¬ c = 75 → ¬ c = 79 → K2 c = K c := fun c c1 c2 => by rw [← hK2, up_ne c1, up_ne c2, g1 c c1]
  have a2 : K2 75 = va_up (K1 75) 10 (nI (k + 1)) := by rw [← hK2, up_eq, e10', i_add]
  have a3 : K2 79 = va_up (K1 79) k (nI f) := by rw [← hK2, up_ne (by decide), up_eq, e11]
  have a4 : ∀ j, ¬ j = 4 → ¬ j = 9 → ¬ j = 10 → K2 75 j = K 75 j := fun j j1 j2 j3 => by rw [a2, up_ne j3]; exact g2 j j1 j2
  have hT2 : TR K2 T n := ⟨by rw [a4 5 (by decide) (by decide) (by decide)]; exact hT.1, hn, fun j hj => ⟨(hT.2.2 j hj).1, by rw [a1 77 (by decide) (by decide)]; exact (hT.2.2 j hj).2⟩⟩
  have hL : RL K2 n (nI 1) K2 (.inr (wend T n p, f, N)) := ⟨rfl, hwl, by omega, ⟨fun _ _ _ => rfl, fun _ _ _ _ _ _ => rfl⟩, by rw [a2, up_ne (by decide)]; exact g3, by rw [a2, up_ne (by decide)]; exact e11, fun j hj => by rw [a1 80 (by decide) (by decide)]; exact h.2.2.2 j hj⟩
  have fr : ∀ K3, RF K2 K3 → RFr K K3 k := fun K3 hF => ⟨fun c c1 c2 c3 => (hF.1 c c1 c3).trans (a1 c c1 c2), fun j j1 j2 j3 j4 j5 j6 j7 => (hF.2 j j1 j2 j3 j4 j7).trans (a4 j j1 j5 j6), fun j hj => by rw [hF.1 79 (by decide) (by decide), a3, up_ne hj, g1 79 (by decide)]⟩
  have done : ∀ v K3 x, RL K2 n v K3 x → kdw T p (wend T n p) < 14 → clp T n p f N = x → RCl n k f (kdw T p (wend T n p)) K J (v, K3, J2) (clp T n p f N) := fun v K3 x hR hkd hc => by
    rw [hc]
    cases x with
    | inl e => exact ⟨hR.1, fr K3 hR.2.2, hR.2.1⟩
    | inr y =>
      obtain ⟨q, f1, N1⟩ := y
      obtain ⟨b1, b2, b3, b4, b5, b6, b7⟩ := hR
      exact ⟨b1, fr K3 b4, fun j hj => by dsimp only; rw [← hJ2, up_eq, up_ne hj, g6 78 (by decide)], by dsimp only; rw [← hJ2, up_eq, up_eq]; exact (W _ hkd).2 rfl, hkd, b2, b3, b5, b6, by dsimp only; rw [b4.2 10 (by decide) (by decide) (by decide) (by decide) (by decide), a2, up_eq], by dsimp only; rw [b4.1 79 (by decide) (by decide), a3, up_eq], b7⟩
  have hcl : kdw T p (wend T n p) < 14 → clp T n p f N = bdp T n (kdw T p (wend T n p)) f (hdp T n (kdw T p (wend T n p)) (.inr (wend T n p, f, N))) := fun h => if_pos h
  generalize hkd : kdw T p (wend T n p) = kd at W done hcl ⊢
  have W0 := W 0 (by decide)
  have W1 := W 1 (by decide)
  have W2 := W 2 (by decide)
  have W3 := W 3 (by decide)
  have W4 := W 4 (by decide)
  have W5 := W 5 (by decide)
  have W6 := W 6 (by decide)
  have W7 := W 7 (by decide)
  have W8 := W 8 (by decide)
  have W9 := W 9 (by decide)
  have W10 := W 10 (by decide)
  have W11 := W 11 (by decide)
  have W12 := W 12 (by decide)
  have W13 := W 13 (by decide)
  change x1 = 17376357 ↔ kd = 0 at W0
  change x1 = 23027990093 ↔ kd = 1 at W1
  change x1 = 13684840 ↔ kd = 2 at W2
  change x1 = 7931400 ↔ kd = 3 at W3
  change x1 = 671108 ↔ kd = 4 at W4
  change x1 = 152620 ↔ kd = 5 at W5
  change x1 = 25019301556 ↔ kd = 6 at W6
  change x1 = 89 ↔ kd = 7 at W7
  change x1 = 20194516 ↔ kd = 8 at W8
  change x1 = 537267 ↔ kd = 9 at W9
  change x1 = 3764 ↔ kd = 10 at W10
  change x1 = 10143540268 ↔ kd = 11 at W11
  change x1 = 18916965 ↔ kd = 12 at W12
  change x1 = 343342 ↔ kd = 13 at W13
  -- two numbers; a third behind them
  have two : kd < 14 → bdp T n kd f (hdp T n kd (.inr (wend T n p, f, N))) = dd T n (.inr (wend T n p, f, N)) → wp (m_217_j193 75 (Rc t) (Gc L) J2 K2 x1) (fun r => RCl n k f kd K J r (clp T n p f N)) := fun hk14 hb => by
    unfold m_217_j193 m_217_j198
    rw [if_neg (show ¬ nI 1 = 0 by decide)]
    refine s_212k (lo := nI 0) (hi := nI 3) (T := T) hT2 hL (fun e K' he hR => done _ _ _ hR hk14 ?_) (fun y K' hy hR => ?_)
    · rw [hcl hk14, hb]
      unfold dd
      rw [he]
      rfl
    · refine s_212k (lo := nI 0) (hi := nI 3) (T := T) hT2 hR (fun e K' he hR => done _ _ _ hR hk14 ?_) (fun y2 K' hy2 hR => ?_)
      · rw [hcl hk14, hb]
        unfold dd
        rw [hy, he]
      · rw [wp_s]
        refine done _ _ _ hR hk14 ?_
        rw [hcl hk14, hb]
        unfold dd
        rw [hy, hy2]
  have third : ∀ hi, kd < 14 → bdp T n kd f (hdp T n kd (.inr (wend T n p, f, N))) = rn T n (nI 0) hi (dd T n (.inr (wend T n p, f, N))) → wp (o_b2 (m_212 75 (nI 0) (nI 3) K2 (Rc t) (Gc L)) (fun r_246 I_246 => if r_246 = 0 then (some ((nI 0), I_246, J2)) else (o_b2 (m_212 75 (nI 0) (nI 3) I_246 (Rc t) (Gc L)) (fun r_255 I_255 => if r_255 = 0 then (some ((nI 0), I_255, J2)) else (o_b2 (m_212 75 (nI 0) hi I_255 (Rc t) (Gc L)) (fun r_265 I_265 => if r_265 = 0 then (some ((nI 0), I_265, J2)) else (some ((nI 1), I_265, J2)))))))) (fun r => RCl n k f kd K J r (clp T n p f N)) := fun hi hk14 hb => by
    refine s_212k (lo := nI 0) (hi := nI 3) (T := T) hT2 hL (fun e K' he hR => done _ _ _ hR hk14 ?_) (fun y K' hy hR => ?_)
    · rw [hcl hk14, hb]
      unfold dd
      rw [he]
      rfl
    · refine s_212k (lo := nI 0) (hi := nI 3) (T := T) hT2 hR (fun e K' he hR => done _ _ _ hR hk14 ?_) (fun y2 K' hy2 hR => ?_)
      · rw [hcl hk14, hb]
        unfold dd
        rw [hy, he]
        rfl
      · refine s_212k (lo := nI 0) (hi := hi) (T := T) hT2 hR (fun e K' he hR => done _ _ _ hR hk14 ?_) (fun y3 K' hy3 hR => ?_)
        · rw [hcl hk14, hb]
          unfold dd
          rw [hy, hy2, he]
        · rw [wp_s]
          refine done _ _ _ hR hk14 ?_
          rw [hcl hk14, hb]
          unfold dd
          rw [hy, hy2, hy3]
  by_cases c0 : kd = 0
  · rw [q_jeq, if_pos (W0.2 c0)]
    subst c0
    have hb : ∀ y, bdp T n 0 f y = y := fun y => by
      cases y with
      | inl e => rfl
      | inr y => rfl
    have hh : hdp T n 0 (.inr (wend T n p, f, N)) = rn T n (-1000) (nI 1000) (rn T n (nI 0) (nI 7) (.inr (wend T n p, f, N))) := rfl
    refine s_212k (lo := nI 0) (hi := nI 7) (T := T) hT2 hL (fun e K' he hR => done _ _ _ hR (by decide) ?_) (fun y K' hy hR => ?_)
    · rw [hcl (by decide), hb, hh, he]
      rfl
    · refine s_212k (lo := -1000) (hi := nI 1000) (T := T) hT2 hR (fun e K' he hR => done _ _ _ hR (by decide) ?_) (fun y2 K' hy2 hR => ?_)
      · rw [hcl (by decide), hb, hh, hy, he]
      · rw [wp_s]
        refine done _ _ _ hR (by decide) ?_
        rw [hcl (by decide), hb, hh, hy, hy2]
  · rw [q_jeq, if_neg (fun h => c0 (W0.1 h))]
    by_cases c1 : kd = 1
    · rw [q_jeq, if_pos (W1.2 c1)]
      subst c1
      refine wp_b2 (wp_mono (s_213 hT2 hL) ?_)
      rintro ⟨v, K3⟩ hR
      dsimp only at hR ⊢
      have hb : ∀ y, bdp T n 1 f y = y := fun y => by
        cases y with
        | inl e => rfl
        | inr y => rfl
      have hv : o_bz v = true := by
        cases hh : rr T n (.inr (wend T n p, f, N)) with
        | inl e => rw [hh] at hR; rw [hR.1]; decide
        | inr y => rw [hh] at hR; rw [show v = nI 1 from hR.1]; decide
      rw [hv, o_g_t, wp_s]
      exact done _ _ _ hR (by decide) (by rw [hcl (by decide), hb]; rfl)
    · rw [q_jeq, if_neg (fun h => c1 (W1.1 h))]
      have bzv : ∀ v K3 x, RL K2 n v K3 x → o_bz v = true := fun v K3 x hR => by
        cases x with
        | inl e => rw [hR.1]; decide
        | inr y => rw [show v = nI 1 from hR.1]; decide
      by_cases c2 : kd = 2
      · rw [q_jeq, if_pos (W2.2 c2)]
        subst c2
        refine wp_b2 (wp_mono (s_214 hT2 hL) ?_)
        rintro ⟨v, K3⟩ hR
        dsimp only at hR ⊢
        rw [bzv _ _ _ hR, o_g_t, wp_s]
        exact done _ _ _ hR (by decide) (hcl (by decide))
      · rw [q_jeq, if_neg (fun h => c2 (W2.1 h))]
        by_cases c3 : kd = 3
        · rw [q_jeq, if_pos (W3.2 c3)]
          subst c3
          refine wp_b2 (wp_mono (s_215 hT2 hL) ?_)
          rintro ⟨v, K3⟩ hR
          dsimp only at hR ⊢
          rw [bzv _ _ _ hR, o_g_t, wp_s]
          exact done _ _ _ hR (by decide) (hcl (by decide))
        · rw [q_jeq, if_neg (fun h => c3 (W3.1 h))]
          by_cases c4 : kd = 4
          · rw [q_jeq, if_pos (W4.2 c4)]
            subst c4
            refine wp_b2 (wp_mono (s_216 hT2 hL) ?_)
            rintro ⟨v, K3⟩ hR
            dsimp only at hR ⊢
            rw [bzv _ _ _ hR, o_g_t, wp_s]
            exact done _ _ _ hR (by decide) (hcl (by decide))
          · rw [q_jeq, if_neg (fun h => c4 (W4.1 h))]
            have hb : ∀ y, bdp T n kd f y = y := fun y => by
              cases y with
              | inl e => rfl
              | inr y =>
                unfold bdp
                dsimp only
                rw [if_neg c2, if_neg c3, if_neg c4]
            have h2 : 4 < kd → ¬ (kd = 6 ∨ kd = 7) → ¬ (kd = 9 ∨ kd = 13) → bdp T n kd f (hdp T n kd (.inr (wend T n p, f, N))) = dd T n (.inr (wend T n p, f, N)) := fun h4 h6 h9 => by
              rw [hb]
              unfold hdp
              rw [if_neg c0, if_pos h4, if_neg h6, if_neg h9]
            by_cases c5 : kd = 5
            · rw [q_jeq, if_pos (W5.2 c5)]
              exact two (by omega) (h2 (by omega) (by omega) (by omega))
            · rw [q_jeq, if_neg (fun h => c5 (W5.1 h))]
              by_cases c8 : kd = 8
              · rw [q_jeq, if_pos (W8.2 c8)]
                exact two (by omega) (h2 (by omega) (by omega) (by omega))
              · rw [q_jeq, if_neg (fun h => c8 (W8.1 h))]
                by_cases c10 : kd = 10
                · rw [q_jeq, if_pos (W10.2 c10)]
                  exact two (by omega) (h2 (by omega) (by omega) (by omega))
                · rw [q_jeq, if_neg (fun h => c10 (W10.1 h))]
                  by_cases c11 : kd = 11
                  · rw [q_jeq, if_pos (W11.2 c11)]
                    exact two (by omega) (h2 (by omega) (by omega) (by omega))
                  · rw [q_jeq, if_neg (fun h => c11 (W11.1 h))]
                    by_cases c12 : kd = 12
                    · rw [q_jeq, if_pos (W12.2 c12)]
                      exact two (by omega) (h2 (by omega) (by omega) (by omega))
                    · rw [q_jeq, if_neg (fun h => c12 (W12.1 h))]
                      unfold m_217_j198
                      rw [if_pos (show nI 0 = 0 from rfl)]
                      have h7 : kd = 6 ∨ kd = 7 → bdp T n kd f (hdp T n kd (.inr (wend T n p, f, N))) = rn T n (nI 0) (nI 7) (dd T n (.inr (wend T n p, f, N))) := fun h6 => by
                        rw [hb]
                        unfold hdp
                        rw [if_neg c0, if_pos (show 4 < kd by omega), if_pos h6]
                      have h3 : kd = 9 ∨ kd = 13 → bdp T n kd f (hdp T n kd (.inr (wend T n p, f, N))) = rn T n (nI 0) (nI 3) (dd T n (.inr (wend T n p, f, N))) := fun h9 => by
                        rw [hb]
                        unfold hdp
                        rw [if_neg c0, if_pos (show 4 < kd by omega), if_neg (show ¬ (kd = 6 ∨ kd = 7) by omega), if_pos h9]
                      by_cases c6 : kd = 6
                      · rw [q_jeq, if_pos (W6.2 c6)]
                        exact third (nI 7) (by omega) (h7 (Or.inl c6))
                      · rw [q_jeq, if_neg (fun h => c6 (W6.1 h))]
                        by_cases c7 : kd = 7
                        · rw [q_jeq, if_pos (W7.2 c7)]
                          exact third (nI 7) (by omega) (h7 (Or.inr c7))
                        · rw [q_jeq, if_neg (fun h => c7 (W7.1 h))]
                          by_cases c9 : kd = 9
                          · rw [q_jeq, if_pos (W9.2 c9)]
                            exact third (nI 3) (by omega) (h3 (Or.inl c9))
                          · rw [q_jeq, if_neg (fun h => c9 (W9.1 h))]
                            by_cases c13 : kd = 13
                            · rw [q_jeq, if_pos (W13.2 c13)]
                              exact third (nI 3) (by omega) (h3 (Or.inr c13))
                            · rw [q_jeq, if_neg (fun h => c13 (W13.1 h))]
                              have hle : kd ≤ 14 := by rw [← hkd]; exact rnl_le (P := fun k => !isW T p (wend T n p) k) 14 0
                              have hk14 : ¬ kdw T p (wend T n p) < 14 := by omega
                              have e9 : K2 75 9 = nI p := by rw [a2, up_ne (by decide)]; exact g4
                              have ec : clp T n p f N = .inl (fa 1 p) := if_neg hk14
                              rw [e9, s_209, o_b2_s, bz0, o_g_t, wp_s, ec]
                              exact ⟨rfl, fr _ (RF_up ⟨fun _ _ _ => rfl, fun _ _ _ _ _ _ => rfl⟩ (by omega)), by dsimp only; rw [up_eq, up_eq]⟩
