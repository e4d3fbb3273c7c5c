/-! What a clause does in the reference. -/
def RAF (I : ai_I) (S : AST) : Prop := RAs I S.1 ∧ I 76 1041 = nI S.2.1 ∧ ∀ k, k < S.2.1 → ∀ j, j < 4 → I 76 (1042 + 4 * (S.2.1 - 1 - k) + j) = S.2.2 k j
def DRf (I K : ai_I) : Prop := (∀ c, ¬ c = 75 → ¬ c = 76 → ¬ c = 81 → ¬ c = 82 → K c = I c) ∧ (∀ j, ¬ j = 18 → ¬ j = 19 → K 75 j = I 75 j) ∧ K 76 1040 = I 76 1040 ∧ ∀ j, 1122 ≤ j → K 76 j = I 76 j
theorem s_222 {J : ai_I} {t L s : Nat} {n r : Int32} {D : Nat → Int32} (hs : s < 4) (h1 : J 75 18 = n) (h2 : J 75 19 = r) (h3 : ∀ k, k < 256 → J 81 k = D k) : wp (m_222 75 (nI s) J (Rc t) (Gc L)) (fun K => (∀ c, ¬ c = 76 → K c = J c) ∧ (∀ j, (j < 258 * s ∨ 258 * s + 258 ≤ j) → K 76 j = J 76 j) ∧ K 76 (258 * s) = n ∧ K 76 (258 * s + 1) = r ∧ ∀ k, k < 256 → K 76 (258 * s + 2 + k) = D k) := by
  unfold m_222
  rw [r_75_0, i_mul, g_76 (by omega), o_g_t, i_cl (by omega), o_b1_s, i_add, g_76 (by omega), o_g_t, i_cl (by omega), o_b1_s]
  refine wp_s1 (wp_lp (fun i s2 => s2.1 = nI i ∧ (∀ c, ¬ c = 76 → s2.2 c = J c) ∧ (∀ j, (j < 258 * s ∨ 258 * s + 2 + i ≤ j) → s2.2 76 j = J 76 j) ∧ s2.2 76 (258 * s) = n ∧ s2.2 76 (258 * s + 1) = r ∧ ∀ k, k < i → s2.2 76 (258 * s + 2 + k) = D k) 0 256 (Nat.zero_le _) (by omega) ⟨rfl, fun c hc => by dsimp only; rw [up_ne hc, up_ne hc], fun j hj => by dsimp only; rw [up_eq, up_ne (by omega), up_eq, up_ne (by omega)], by dsimp only; rw [up_eq, up_ne (by omega), up_eq, up_eq, h1], by dsimp only; rw [up_eq, up_eq, up_ne (by decide), h2], fun k hk => absurd hk (Nat.not_lt_zero _)⟩ ?_ ?_)
  · rintro i ⟨x, M⟩ hi ⟨g1, g2, g3, g4, g5, g6⟩
    dsimp only at g1 g2 g3 g4 g5 g6
    subst g1
    unfold m_222_b32
    dsimp only
    rw [if_neg (nI_ge hi (by decide)), r_75_16, g_81 hi, o_g_t, r_75_0, i_mul, i_add, i_add, g_76 (by omega), o_g_t, i_cl (by omega), i_cl (by omega), g2 81 (by decide), h3 i hi, o_b1_s, i_add, o_b1_s, wp_s, lq_l]
    refine ⟨rfl, fun c hc => by dsimp only; rw [up_ne hc]; exact g2 c hc, fun j hj => by dsimp only; rw [up_eq, up_ne (by omega)]; exact g3 j (by omega), by dsimp only; rw [up_eq, up_ne (by omega)]; exact g4, by dsimp only; rw [up_eq, up_ne (by omega)]; exact g5, fun k hk => ?_⟩
    dsimp only
    rw [up_eq]
    by_cases e : k = i
    · rw [e, up_eq]
    · rw [up_ne (by omega)]
      exact g6 k (by omega)
  · rintro ⟨x, M⟩ ⟨g1, g2, g3, g4, g5, g6⟩
    dsimp only at g1 g2 g3 g4 g5 g6
    subst g1
    unfold m_222_b32
    dsimp only
    rw [if_pos (Int32.le_refl _), wp_s, lq_r]
    exact ⟨M, rfl, g2, fun j hj => g3 j (by omega), g4, g5, g6⟩
theorem s_241 {I : ai_I} {J : ai_J} {t L k kd a b : Nat} {S : AST} {c : Nat → Int32} (h2 : kd < 14) (hk : k < 16) (hA : WFA S.1) (hm : S.2.1 ≤ 20) (hR : RAF I S) (hC : RCd I a b c) (hF : CFk kd c (b - a)) (hJ : J 78 k = WC kd) (h79 : I 79 k = nI a) (hb : (I 75 10 ≤ nI (k + 1) ∧ I 75 11 = nI b) ∨ (¬ I 75 10 ≤ nI (k + 1) ∧ k + 1 < 16 ∧ I 79 (k + 1) = nI b)) : wp (m_241 75 (nI k) I J (Rc t) (Gc L)) (fun q => (q.1 = nI 1 ∧ can S kd c (b - a) ∧ RAF q.2 (stp S kd c (b - a)) ∧ DRf I q.2) ∨ (q.1 = nI 0 ∧ ¬ can S kd c (b - a) ∧ RAF q.2 S ∧ DRf I q.2)) := by
  obtain ⟨hR1, hR2, hR3⟩ := id hR
  obtain ⟨hab, hb100, hN⟩ := id hC
  obtain ⟨f1, f2, f3⟩ := CF_0 hF h2
  have n0 : I 80 a = c 0 := hN 0 (by omega)
  have n1 : I 80 (a + 1) = c 1 := hN 1 (by omega)
  have body : wp (m_241_j32 75 (nI k) I J (Rc t) (Gc L) (nI a) (nI b)) (fun q => (q.1 = nI 1 ∧ can S kd c (b - a) ∧ RAF q.2 (stp S kd c (b - a)) ∧ DRf I q.2) ∨ (q.1 = nI 0 ∧ ¬ can S kd c (b - a) ∧ RAF q.2 S ∧ DRf I q.2)) := by
    unfold m_241_j32
    rw [r_75_13, g_78 hk, o_g_t, i_cl (by omega), hJ]
    by_cases c0 : kd = 0
    · subst c0
      obtain ⟨e, e1, e2⟩ := f2 rfl
      rw [if_pos (show ai_cmp (WC 0) 17376357 = 0 from W_eq 0 (by decide)), r_75_15, g_80 (by omega), o_g_t, i_add, g_80 (by omega), o_g_t, i_cl (by omega), i_cl (by omega), n0, n1, e2, r_75_0, i_add, g_76 (by omega), o_g_t, i_cl (by omega), o_b1_s, wp_s]
      have hst : stp S 0 c (b - a) = ((S.1.1, S.1.2.1, S.1.2.2.1, va_up S.1.2.2.2 e (c 1)), S.2) := by
        unfold stp
        rw [if_pos rfl, e2, i_cl (by omega)]
      have x76 : ∀ j, ¬ j = 1032 + e → va_up I 76 (va_up (I 76) (1032 + e) (c 1)) 76 j = I 76 j := fun j hj => by rw [up_eq, up_ne hj]
      refine Or.inl ⟨rfl, Or.inl rfl, ?_, ⟨fun x _ h _ _ => up_ne h, fun j _ _ => by dsimp only; rw [up_ne (by decide)], x76 _ (by omega), fun j hj => x76 j (by omega)⟩⟩
      rw [hst]
      refine ⟨⟨fun s hs => ⟨(x76 _ (by omega)).trans (hR1.1 s hs).1, (x76 _ (by omega)).trans (hR1.1 s hs).2.1, fun j hj => (x76 _ (by omega)).trans ((hR1.1 s hs).2.2 j hj)⟩, fun i hi => ?_⟩, (x76 _ (by omega)).trans hR2, fun i hi j hj => (x76 _ (by omega)).trans (hR3 i hi j hj)⟩
      unfold RP
      dsimp only
      by_cases h : i = e
      · rw [h, up_eq, up_eq, up_eq]
      · rw [x76 _ (by omega), up_ne h]
        exact hR1.2 i hi
    · obtain ⟨s, s3, s1⟩ := f3 c0
      have s2 : s < 4 := by omega
      rw [if_neg (show ¬ ai_cmp (WC kd) 17376357 = 0 from W_ne kd h2 0 (by decide) c0), o_g_t]
      have make : wp (m_240 75 (WC kd) (nI a) (nI b) I (Rc t) (Gc L)) (RMk I S.1 kd c (b - a)) := by
        by_cases c4 : 4 < kd
        · exact s_240b c4 h2 hA hR1 hC hF
        · exact s_240a (by omega) (by omega) hC hF
      have hAB : ∀ n r D, DRk (SVf I S.1) kd c (b - a) n r D ↔ DRk S.1 kd c (b - a) n r D := fun n r D => ⟨DRk_cA (fun x hx => ⟨rfl, rfl, (hR1.1 x hx).2.2⟩) (fun i hi => hR1.2 i hi), DRk_cA (fun x hx => ⟨rfl, rfl, fun j hj => ((hR1.1 x hx).2.2 j hj).symm⟩) (fun i hi => (hR1.2 i hi).symm)⟩
      have frR : ∀ K : ai_I, ((∀ x, ¬ x = 75 → ¬ x = 81 → ¬ x = 82 → K x = I x) ∧ ∀ j, ¬ j = 18 → ¬ j = 19 → K 75 j = I 75 j) → RAF K S ∧ DRf I K := fun K hK => by
        have k76 : K 76 = I 76 := hK.1 76 (by decide) (by decide) (by decide)
        refine ⟨?_, fun x p1 _ p3 p4 => hK.1 x p1 p3 p4, hK.2, by rw [k76], fun j _ => by rw [k76]⟩
        unfold RAF RAs FV RP at hR ⊢
        rw [k76]
        exact hR
      refine wp_b2 (wp_mono make ?_)
      rintro ⟨v, K⟩ hq
      rcases hq with ⟨rfl, hfr, hno⟩ | ⟨rfl, n, r, D, hM, hD⟩
      · dsimp only
        obtain ⟨y1, y2⟩ := frR K hfr
        rw [q_00, wp_s]
        exact Or.inr ⟨rfl, fun h => h.elim c0 (fun ⟨n, r, D, hD, _⟩ => hno n r D ((hAB n r D).2 hD)), y1, y2⟩
      · dsimp only at hM ⊢
        rw [if_neg (show ¬ nI 1 = 0 by decide)]
        refine wp_b1 (wp_mono (s_223 hM) ?_)
        rintro v hv
        obtain ⟨y1, y2⟩ := frR K (MR_f hM)
        rcases hv with ⟨rfl, ok, ho⟩ | ⟨rfl, hno⟩
        · rcases hD with ⟨a', b', rfl, rfl, hD⟩ | ⟨hno, _⟩
          · have hD' := (hAB _ _ _).1 hD
            obtain ⟨m1, m2, m3, m4, m5⟩ := mk0_s hD' ok
            have k80 : K 80 = I 80 := hM.1 80 (by decide) (by decide) (by decide)
            have k76 : K 76 = I 76 := hM.1 76 (by decide) (by decide) (by decide)
            have hVs := (hR1.1 s s2).2.2
            rw [if_neg (show ¬ nI 1 = 0 by decide), r_75_15, g_80 (by omega), o_g_t, i_cl (by omega), k80, n0, s1, o_b1_s, s_204 (by omega), o_b1_s]
            refine wp_b1 (wp_mono (s_222 (s := s) (D := D) s2 hM.2.2.1 hM.2.2.2.1 hM.2.2.2.2) ?_)
            rintro M ⟨p1, p2, p3, p4, p5⟩
            have hm41 : M 76 1041 = nI S.2.1 := by rw [p2 _ (by omega), k76]; exact hR2
            refine wp_b1 (wp_mono (s_239 (m := S.2.1) s2 hm hm41) ?_)
            rintro P ⟨r1, r2, p, r3, r4, r5, r6, r7, r8, r9, r10⟩
            have hFK : BL (FV K s) = BL (S.1.2.2.1 s) := BL_cong (fun j hj => by
              unfold FV
              rw [k76]
              exact hVs j hj)
            have hFM : BL (FV M s) = BL (mk0 S.1 kd c (b - a)).2.2 := BL_cong (fun j hj => (p5 j hj).trans (m3 j hj))
            rw [hFM] at r9
            rw [p3] at r10
            rw [hFK] at r8
            have hst : stp S kd c (b - a) = ((va_up S.1.1 s a', va_up S.1.2.1 s b', va_up S.1.2.2.1 s (mk0 S.1 kd c (b - a)).2.2, S.1.2.2.2), min 20 (S.2.1 + 1), nxn s a' (BL (S.1.2.2.1 s)).length (BL (mk0 S.1 kd c (b - a)).2.2).length S.2.2) := by
              unfold stp
              rw [if_neg c0, s1, i_cl (by omega), m1, m2]
            rw [wp_s]
            refine Or.inl ⟨rfl, Or.inr ⟨a', b', D, hD', ok⟩, ?_, ⟨fun x q1 q2 q3 q4 => by dsimp only; rw [r1 x q2, p1 x q2]; exact hM.1 x q1 q3 q4, fun j j1 j2 => by dsimp only; rw [r1 75 (by decide), p1 75 (by decide)]; exact hM.2.1 j j1 j2, by dsimp only; rw [r2 _ (by omega), p2 _ (by omega), k76], fun j hj => by dsimp only; rw [r2 _ (by omega), p2 _ (by omega), k76]⟩⟩
            rw [hst]
            refine ⟨⟨fun x hx => ?_, fun i hi => ?_⟩, by dsimp only; rw [r5, r4], fun i hi j hj => ?_⟩
            · dsimp only
              by_cases h : x = s
              · subst h
                rw [up_eq, up_eq, up_eq]
                exact ⟨by rw [r2 _ (by omega)]; exact p3, by rw [r2 _ (by omega)]; exact p4, fun j hj => by
                  unfold FV
                  rw [r2 _ (by omega), p5 j hj, m3 j hj]⟩
              · rw [up_ne h, up_ne h, up_ne h]
                exact ⟨by rw [r2 _ (by omega), p2 _ (by omega), k76]; exact (hR1.1 x hx).1, by rw [r2 _ (by omega), p2 _ (by omega), k76]; exact (hR1.1 x hx).2.1, fun j hj => by
                  unfold FV
                  rw [r2 _ (by omega), p2 _ (by omega), k76]
                  exact (hR1.1 x hx).2.2 j hj⟩
            · unfold RP
              dsimp only
              rw [r2 _ (by omega), p2 _ (by omega), k76]
              exact hR1.2 i hi
            · dsimp only at hi ⊢
              unfold nxn
              by_cases h0 : i = 0
              · subst h0
                rw [if_pos rfl, show min 20 (S.2.1 + 1) - 1 - 0 = p by omega]
                match j, hj with
                | 0, _ => exact r7
                | 1, _ => exact r8
                | 2, _ => exact r9
                | 3, _ => exact r10
              · have e1 : 1042 + 4 * (min 20 (S.2.1 + 1) - 1 - i) + j = 1042 + (4 * (p - i) + j) := by omega
                have e2 : 1042 + 4 * (S.2.1 - p) + (4 * (p - i) + j) = 1042 + 4 * (S.2.1 - 1 - (i - 1)) + j := by omega
                rw [if_neg h0, e1, r6 _ (by omega), e2, p2 _ (by omega), k76]
                exact hR3 (i - 1) (by omega) j hj
          · exact absurd ho hno
        · rw [q_00, wp_s]
          refine Or.inr ⟨rfl, fun h => h.elim c0 (fun ⟨n2, r2, D2, hD2, ok2⟩ => hno ?_), y1, y2⟩
          rcases hD with ⟨a', b', rfl, rfl, hD⟩ | ⟨_, hno2⟩
          · have hD' := (hAB _ _ _).1 hD
            have hu := (DRk_un hD' hD2).2.2
            obtain ⟨⟨d1, d2, d3, d4⟩, -⟩ := hD'
            refine ⟨⟨?_, fun j hj hV => ?_⟩, ?_⟩
            · obtain ⟨⟨j, hj, hV⟩, -⟩ := ok2
              exact ⟨j, hj, by rw [hu j hj]; exact hV⟩
            · rw [hu j hj] at hV ⊢
              exact ok2.2 j hj hV
            · exact (opn_i (by omega) (by omega) (by omega)).2 ⟨⟨d1, d2⟩, d3, d4⟩
          · exact absurd ((hAB _ _ _).2 hD2) (hno2 n2 r2 D2)
  unfold m_241
  rw [r_75_14, g_79 hk, o_g_t, i_cl (by omega), h79, o_b1_s, i_add]
  rcases hb with ⟨hb1, hb2⟩ | ⟨hb1, hb2, hb3⟩
  · rw [if_pos hb1, hb2]
    exact body
  · rw [if_neg hb1, g_79 hb2, o_g_t, i_cl (by omega), hb3]
    exact body
