/-! Rows of the class: found, how many. -/
theorem c_59 {n r v w : Nat} {V W : Nat → Int32} {I : ai_I} {J : ai_J} {t L : Nat} (hv : v ∈ VC ∧ w ∈ VC ∧ v < 40 ∧ w < 40) (hW : WF n r V ∧ WF n r W) (hC : CS I v n r V ∧ CS I w n r W) : wp (m_59 67 v w I J (Rc t) (Gc L)) (fun q => (∀ c, ¬ c = 68 → ¬ c = 69 → ¬ c = 70 → q.2.1 c = I c) ∧ EN n r v w V W q.2.1 q.2.2 ∧ ((q.1 = nI 1 ∧ ∃ f, Sol n V W f ∧ (∀ ρ, Sol n V W ρ → cd f ≤ cd ρ) ∧ ∀ i, i < n → q.2.1 68 i = nI (f i)) ∨ (q.1 = nI 0 ∧ ∀ ρ, ¬ Sol n V W ρ))) := by
  have hn := hW.1.2.1
  unfold m_59
  refine wp_s1 (wp_lp (fun i s => s.1 = nI i ∧ ∀ e, e < i → s.2 71 e = mk V e 256 ∧ s.2 72 e = mk W e 256) 0 n (Nat.zero_le _) (by omega) ⟨rfl, fun e he => absurd he (Nat.not_lt_zero _)⟩ ?_ ?_)
  · rintro i ⟨s, M⟩ hi ⟨h1, h2⟩
    dsimp only at h1 h2
    subst h1
    unfold m_59_b2
    dsimp only
    rw [v_kd hv.1, o_g_t, hC.1.1, if_neg (nI_ge hi (by omega)), c_60 hv.1 hW.1 hC.1 (by omega), o_b1_s, r_67_3, g_71 (by omega), o_g_t, i_cl (by omega), o_b1_s, c_60 hv.2.1 hW.2 hC.2 (by omega), o_b1_s, r_67_4, g_72 (by omega), o_g_t, o_b1_s, i_add, o_b1_s, wp_s, lq_l]
    refine ⟨rfl, fun e he => ?_⟩
    dsimp only
    rw [up_ne (by decide), up_eq, up_eq]
    by_cases c : e = i
    · rw [c, up_eq, up_eq]
      exact ⟨rfl, rfl⟩
    · rw [up_ne c, up_ne c, up_ne (by decide)]
      exact h2 e (by omega)
  · rintro ⟨s, M⟩ ⟨h1, h2⟩
    dsimp only at h1 h2
    subst h1
    unfold m_59_b2
    dsimp only
    rw [v_kd hv.1, o_g_t, hC.1.1, if_pos (Int32.le_refl _), wp_s, lq_r]
    unfold m_59_x2_38
    obtain ⟨q, q1, q2, q3⟩ := c_62 (t := t) (L := L) (σ := fun _ => 0) (from' := 0) (J := M) ⟨hv, hW, hC, h2⟩ (Nat.zero_le n) ⟨fun i hi => absurd hi (Nat.not_lt_zero _), fun S h0 hS => absurd hS (by have : 2 ^ 0 = 1 := rfl; omega)⟩ ⟨fun i hi => absurd hi (Nat.not_lt_zero _), fun i j hi => absurd hi (Nat.not_lt_zero _), fun i hi => absurd hi (Nat.not_lt_zero _)⟩
    have hE : EN n r v w V W I M := ⟨hv, hW, hC, h2⟩
    rw [q1, o_b2]
    rcases q3 with ⟨z1, τ, z2, z3⟩ | ⟨z1, z2, z3⟩
    · rw [z1, q_10, r_67_0, r_67_1, o_cpy_of (n := 8) (m := 8) rfl rfl rfl rfl (by omega) (by omega) (by decide), o_g_t, o_b1_s, wp_s]
      refine ⟨fun c h1 h3 h4 => by dsimp only; rw [up_ne h1]; exact q2 c h3 h4, EN_fr hE (fun c hc => by dsimp only; rw [up_ne (by omega)]; exact q2 c (by omega) (by omega)), Or.inl ⟨rfl, τ, z2.1, fun ρ h => z2.2.2.2 ρ h (fun i hi => absurd hi (Nat.not_lt_zero _)) (fun _ => Nat.zero_le _), fun i hi => ?_⟩⟩
      dsimp only
      rw [up_eq]
      show va_cpy (q.2 69) (q.2 68) 0 0 8 i = _
      rw [cpy0, if_pos (by omega)]
      exact z3.1 i hi
    · rw [z1, q_00, wp_s]
      exact ⟨fun c h1 h3 h4 => q2 c h3 h4, EN_fr hE (fun c hc => q2 c (by omega) (by omega)), Or.inr ⟨rfl, fun ρ h => z3 ρ h (fun i hi => absurd hi (Nat.not_lt_zero _)) (fun _ => Nat.zero_le _)⟩⟩
theorem ag_dn {σ ρ : Nat → Nat} {a x : Nat} (h : ag (va_up σ a x) (a + 1) ρ) : ag σ a ρ ∧ ρ a = x := ⟨fun i hi => (h i (by omega)).trans (up_ne (by omega)), (h a (by omega)).trans up_eq⟩
theorem c_61 {n r v w : Nat} {V W : Nat → Int32} {I : ai_I} {J : ai_J} {t L : Nat} {f : Nat → Nat} (hE : EN n r v w V W I J) (hf : Sol n V W f) (h68 : ∀ i, i < n → I 68 i = nI (f i)) : wp (m_61 67 v w I J (Rc t) (Gc L)) (fun q => q.1 = nI (NS n V W f 0) ∧ ot2 I q.2 69 70) := by
  have hE2 := hE
  obtain ⟨⟨hv, hw, hv4, hw4⟩, ⟨hV, hW⟩, -, hJ⟩ := hE
  have hn := hV.2.1
  have hfn : ∀ i, i < n → f i < n := fun i hi => PM_lt hf.1 hn hi
  have hfr : ∀ K : ai_I, ot2 I K 69 70 → EN n r v w V W K J := fun K hK => EN_fr hE2 (fun c hc => hK c (by omega) (by omega))
  unfold m_61
  refine wp_s1 (wp_lp (fun i s => (∃ A, s.1 = nI A ∧ A * NS n V W f i = NS n V W f 0) ∧ s.2.1 = nI i ∧ ot2 I s.2.2 69 70 ∧ SG s.2.2 f i) 0 n (Nat.zero_le _) (by omega) ⟨⟨1, rfl, Nat.one_mul _⟩, rfl, fun _ _ _ => rfl, fun i hi => absurd hi (Nat.not_lt_zero _), fun S h0 hS => absurd hS (by have : 2 ^ 0 = 1 := rfl; omega)⟩ ?_ ?_)
  · rintro a ⟨s1, s2, M⟩ ha ⟨⟨A, h1, h2⟩, h3, h4, h5⟩
    dsimp only at h1 h2 h3 h4 h5
    subst h1 h3
    have hEM := hfr M h4
    unfold m_61_b5
    dsimp only
    rw [v_kd hv, o_g_t, if_neg (show ¬ M v 0 ≤ nI a by rw [hEM.2.2.1.1.1]; exact nI_ge ha (by omega))]
    refine wp_s1 (wp_lp (fun e s => s.1 = nI (fln (cl (gn n V W f a)) e) ∧ s.2.1 = nI e ∧ ot2 I s.2.2 69 70 ∧ SG s.2.2 f a) 0 n (Nat.zero_le _) (by omega) ⟨rfl, rfl, h4, h5⟩ ?_ ?_)
    · rintro e ⟨u1, u2, K⟩ he ⟨k1, k2, k3, k4⟩
      dsimp only at k1 k2 k3 k4
      subst k1 k2
      have hEK := hfr K k3
      unfold m_61_b20
      dsimp only
      rw [if_neg (show ¬ K v 0 ≤ nI e by rw [hEK.2.2.1.1.1]; exact nI_ge he (by omega)), r_67_1, g_69 (by omega), o_g_t, i_cl (by omega), o_b1_s]
      have w1 : ∀ i, i < a → va_up f a e i = f i := fun i hi => up_ne (by omega)
      have w2 : va_up f a e a = e := up_eq
      generalize hP : va_up K 69 (va_up (K 69) a (nI e)) = P
      have p1 : ∀ c, ¬ c = 69 → P c = K c := fun c hc => by rw [← hP, up_ne hc]
      have p2 : ∀ i, i < a → P 69 i = nI (f i) := fun i hi => by rw [← hP, up_eq, up_ne (by omega)]; exact k4.1 i hi
      have p3 : P 69 a = nI e := by rw [← hP, up_eq, up_eq]
      have p4 : ot2 I P 69 70 := fun c h1 h2 => (p1 c h1).trans (k3 c h1 h2)
      have p5 : SG P f a := ⟨p2, fun S h0 hS => by rw [p1 70 (by decide)]; exact k4.2 S h0 hS⟩
      have skip : ∀ (Q : ai_I), ot2 I Q 69 70 → SG Q f a → ¬ gn n V W f a e → wp (o_b1 (some (nI e + nI 1)) (fun x6_78 => some (Sum.inl (nI (fln (cl (gn n V W f a)) e), x6_78, Q)))) (lq (fun s => s.1 = nI (fln (cl (gn n V W f a)) (e + 1)) ∧ s.2.1 = nI (e + 1) ∧ ot2 I s.2.2 69 70 ∧ SG s.2.2 f a) (fun (t_1 : Int32 × ai_I) => wp (m_61_x20_84 67 v w J (Rc t) (Gc L) (nI A) (nI a) t_1.1 t_1.2) (lq (fun s => (∃ A, s.1 = nI A ∧ A * NS n V W f (a + 1) = NS n V W f 0) ∧ s.2.1 = nI (a + 1) ∧ ot2 I s.2.2 69 70 ∧ SG s.2.2 f (a + 1)) (fun (a : Int32 × ai_I) => wp (m_61_x5_118 a.1 a.2) (fun q => q.1 = nI (NS n V W f 0) ∧ ot2 I q.2 69 70))))) := by
        intro Q g1 g2 g3
        rw [i_add, o_b1_s, wp_s, lq_l]
        exact ⟨by dsimp only; rw [fln_f g3], rfl, g1, g2⟩
      refine wp_b1 (wp_mono (c_64 (t := t) (L := L) (a := a) (e := e) (σ := f) (by omega) (by omega) (fun i hi => hf.1.1 i (by omega)) p2) ?_)
      rintro y (⟨rfl, c⟩ | ⟨rfl, c⟩)
      · rw [q_10]
        exact skip P p4 p5 (fun ⟨τ, t1, t2, t3⟩ => usd_no (by omega) t1 t2 (t3.symm ▸ c))
      · rw [q_00]
        have hEP := hfr P p4
        have hSt : ∀ i, i < a + 1 → va_up f a e i < n := fun i hi => by
          by_cases c1 : i = a
          · rw [c1, w2]
            exact he
          · rw [w1 i (by omega)]
            exact hfn i (by omega)
        have hRt : RWr P (va_up f a e) (a + 1) := fun i hi => by
          by_cases c1 : i = a
          · rw [c1, w2]
            exact p3
          · rw [w1 i (by omega)]
            exact p2 i (by omega)
        obtain ⟨z, z1, z2, z3, z4⟩ := c_65 (t := t) (L := L) (I := P) (J := J) (n := n) (r := r) (a := a) (V := V) (W := W) (σ := va_up f a e) hv hw hv4 hw4 hn hEP.2.2.1.1 hEP.2.2.1.2 ha hSt hRt (fun S h0 hS => by rw [p5.2 S h0 hS, im_cong a (fun i hi => (w1 i hi).symm)]) hJ
        have f1 : ot2 I z.2 69 70 := fun c h1 h2 => (z2 c h2).trans (p4 c h1 h2)
        have zr : ∀ i, z.2 69 i = P 69 i := fun i => by rw [z2 69 (by decide)]
        have hSz : SG z.2 f a := ⟨fun i hi => by rw [zr i]; exact p2 i hi, fun S h0 hS => by rw [z3 S h0 hS, im_cong a w1]⟩
        rw [z1, o_b2]
        rcases z4 with ⟨y1, y2, y3⟩ | ⟨y1, y2⟩
        · rw [y1, q_10, i_add]
          have hG2 : GPx n V W (va_up f a e) (a + 1) := by
            refine ⟨hSt, fun i j hi hj e1 => ?_, fun i hi => ?_⟩
            · by_cases c1 : i = a
              · by_cases c2 : j = a
                · omega
                · rw [c1, w2, w1 j (by omega)] at e1
                  exact absurd ⟨j, by omega, e1.symm⟩ c
              · by_cases c2 : j = a
                · rw [c2, w2, w1 i (by omega)] at e1
                  exact absurd ⟨i, by omega, e1⟩ c
                · rw [w1 i (by omega), w1 j (by omega)] at e1
                  exact hf.1.2.1 i j (by omega) (by omega) e1
            · by_cases c1 : i = a
              · rw [c1]
                exact y2
              · exact okk_cong (fun j hj => (w1 j (by omega)).symm) (Sol_okk hV hW hf (by omega))
          obtain ⟨x, x1, x2, x3⟩ := c_62 (t := t) (L := L) (σ := va_up f a e) (from' := a + 1) (hfr z.2 f1) (by omega) ⟨fun i hi => by rw [zr i]; exact hRt i hi, y3⟩ hG2
          rw [x1, o_b2]
          rcases x3 with ⟨g1, τ, g2, g3⟩ | ⟨g1, g2, g3⟩
          · have hag := ag_dn g2.2.1
            have hgn : gn n V W f a e := ⟨τ, g2.1, hag.1, hag.2⟩
            rw [g1, show m_182 (nI 1) = some (nI 1) from rfl, o_b1_s, i_add, o_b1_s, i_add, o_b1_s, wp_s, lq_l]
            exact ⟨by dsimp only; rw [fln_t hgn], rfl, ot2_tr f1 x2, SG_dn g3 (by omega) (fun i hi => hag.1 i hi)⟩
          · rw [g1, show m_182 (nI 0) = some (nI 0) from rfl, o_b1_s, i_add, o_b1_s, Nat.add_zero]
            exact skip x.2 (ot2_tr f1 x2) (SG_dn g2 (by omega) (fun i hi => w1 i hi)) (fun ⟨τ, t1, t2, t3⟩ => g3 τ t1 (ag_up t2 t3) (fun _ => Nat.zero_le _))
        · rw [y1, q_00]
          exact skip z.2 f1 hSz (fun ⟨τ, t1, t2, t3⟩ => y2 (okk_cong (fun i hi => (ag_up t2 t3) i hi) (Sol_okk hV hW t1 ha)))
    · rintro ⟨u1, u2, K⟩ ⟨k1, k2, k3, k4⟩
      dsimp only at k1 k2 k3 k4
      subst k1 k2
      have hEK := hfr K k3
      unfold m_61_b20
      dsimp only
      rw [if_pos (show K v 0 ≤ nI n by rw [hEK.2.2.1.1.1]; exact Int32.le_refl _), wp_s, lq_r]
      unfold m_61_x20_84
      dsimp only
      rw [i_mul, o_b1_s, r_67_0, r_67_1, g_68 (by omega), o_g_t, g_69 (by omega), o_g_t, i_cl (by omega), o_b1_s, k3 68 (by decide) (by decide), h68 a ha]
      generalize hP : va_up K 69 (va_up (K 69) a (nI (f a))) = P
      have p1 : ∀ c, ¬ c = 69 → P c = K c := fun c hc => by rw [← hP, up_ne hc]
      have p2 : RWr P f (a + 1) := fun i hi => by
        by_cases c1 : i = a
        · rw [← hP, c1, up_eq, up_eq]
        · rw [← hP, up_eq, up_ne c1]
          exact k4.1 i (by omega)
      have p4 : ot2 I P 69 70 := fun c h1 h2 => (p1 c h1).trans (k3 c h1 h2)
      have hEP := hfr P p4
      obtain ⟨z, z1, z2, z3, z4⟩ := c_65 (t := t) (L := L) (I := P) (J := J) (n := n) (r := r) (a := a) (V := V) (W := W) (σ := f) hv hw hv4 hw4 hn hEP.2.2.1.1 hEP.2.2.1.2 ha (fun i hi => hfn i (by omega)) p2 (fun S h0 hS => by rw [p1 70 (by decide)]; exact k4.2 S h0 hS) hJ
      rw [z1, o_b2, i_add, o_b1_s, wp_s, lq_l]
      rcases z4 with ⟨y1, y2, y3⟩ | ⟨y1, y2⟩
      · refine ⟨⟨_, rfl, ?_⟩, rfl, fun c h1 h2 => (z2 c h2).trans (p4 c h1 h2), fun i hi => by dsimp only; rw [z2 69 (by decide)]; exact p2 i hi, y3⟩
        rw [← h2, NS_step hn ha hf, Nat.mul_assoc]
      · exact absurd (Sol_okk hV hW hf ha) y2
  · rintro ⟨s1, s2, M⟩ ⟨⟨A, h1, h2⟩, h3, h4, h5⟩
    dsimp only at h1 h2 h3 h4 h5
    subst h1 h3
    have hEM := hfr M h4
    unfold m_61_b5
    dsimp only
    rw [v_kd hv, o_g_t, if_pos (show M v 0 ≤ nI n by rw [hEM.2.2.1.1.1]; exact Int32.le_refl _), wp_s, lq_r, m_61_x5_118, wp_s]
    rw [NS_end hn hf, Nat.mul_one] at h2
    exact ⟨by rw [h2], h4⟩
