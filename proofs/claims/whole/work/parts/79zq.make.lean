/-! Made of shelves, by the reference. -/
theorem cdt_8 {V : Nat → Int32} {n r j : Nat} {z : Int32} (hW : WF n r V) : cdt V true 8 256 j z ↔ cdt V true n 256 j z := by
  constructor
  · rintro ⟨b, e, h1, h2, h3, h4, h5, h6⟩
    refine ⟨b, e, h1, h2, Classical.byContradiction (fun hb => ?_), h4, h5, h6⟩
    rw [tb_hi (hW.2.2.2.2.1 b h1 h2).1 (by omega)] at h4
    cases h4
  · rintro ⟨b, e, h1, h2, h3, h4, h5, h6⟩
    have := hW.2.1
    exact ⟨b, e, h1, h2, by omega, h4, h5, h6⟩
theorem s_240b {I : ai_I} {t L kd a b : Nat} {A : SV} {c : Nat → Int32} (h1 : 4 < kd) (h2 : kd < 14) (hA : WFA A) (hR : RAs I A) (hC : RCd I a b c) (hF : CFk kd c (b - a)) : wp (m_240 75 (WC kd) (nI a) (nI b) I (Rc t) (Gc L)) (RMk I A kd c (b - a)) := by
  obtain ⟨hab, hb, hN⟩ := hC
  have hF' := hF
  unfold CFk at hF'
  rw [if_neg (by omega), if_pos h1] at hF'
  obtain ⟨f1, -, ⟨s, f2', e1⟩, f3, f4⟩ := hF'
  have hs : s < 4 := by omega
  have hW := hA s hs
  obtain ⟨i1, i2, i3⟩ := hR.1 s hs
  have hWF : WF (A.1 s) (A.2.1 s) (FV I s) := WF_cong (fun k hk => (i3 k hk).symm) hW
  have b1 := hW.1
  have b2 := hW.2.1
  have b3 := hW.2.2.1
  have b4 := hW.2.2.2.1
  have hs' : ∀ s', s' < 4 → c 1 = nI s' → s' = s := fun s' h h2 => n_in (by omega) (by omega) h2 e1
  have n1 : I 80 (a + 1) = nI s := (hN 1 (by omega)).trans e1
  have g1 : o_in (Gc L) 13 (Rc t 75 15) (nI a + nI 1) = true := by rw [r_75_15, i_add]; exact g_80 (by omega)
  have g2 : o_in (Gc L) 13 (Rc t 75 15) (nI a + nI 2) = true := by rw [r_75_15, i_add]; exact g_80 (by omega)
  have v1 : I (Rc t 75 15) (nI a + nI 1).toNatClampNeg = nI s := by rw [r_75_15, i_add, i_cl (by omega)]; exact n1
  have v2 : ∀ K : ai_I, K 80 = I 80 → K (Rc t 75 15) (nI a + nI 2).toNatClampNeg = I 80 (a + 2) := fun K hK => by rw [r_75_15, i_add, i_cl (by omega), hK]
  rw [sk_0 h2 (by omega) _ _ g1 v1, sk_32 h2 (by omega), sk_57 h2 (by omega), sk_82 h2 (by omega)]
  have tk := s_221 (t := t) (L := L) (I := I) (J := I) (a := s) (by omega) (fun _ _ _ _ => rfl) (fun _ _ _ => rfl)
  rw [i1, i2] at tk
  by_cases c5 : kd = 5
  · subst c5
    unfold m_240_j109
    rw [if_neg (show ¬ ai_cmp (WC 5) 23027990093 = 0 from W_ne 5 (by decide) 1 (by decide) (by decide)), if_neg (show ¬ ai_cmp (WC 5) 13684840 = 0 from W_ne 5 (by decide) 2 (by decide) (by decide)), if_neg (show ¬ ai_cmp (WC 5) 7931400 = 0 from W_ne 5 (by decide) 3 (by decide) (by decide)), if_neg (show ¬ ai_cmp (WC 5) 671108 = 0 from W_ne 5 (by decide) 4 (by decide) (by decide))]
    refine wp_b1 (wp_mono tk ?_)
    intro K hK
    rw [if_pos (show ai_cmp (WC 5) 152620 = 0 from W_eq 5 (by decide))]
    refine wp_b1 (wp_mono (s_230 b2 (by omega) hK) ?_)
    intro K2 hK2
    rw [sk_161 h2 (by decide), sk_173 h2 (by decide), sk_185 h2 (by decide), sk_199 h2 (by decide), sk_219 h2 (by decide) (by decide), sk_277 h2 (by decide), sk_299 h2 (by decide), wp_s]
    exact Or.inr ⟨rfl, _, _, _, hK2, Or.inl ⟨_, _, rfl, rfl, ⟨b1, b2, by omega, by omega⟩, s, hs, e1, rfl, rfl, fun _ _ => rfl⟩⟩
  · rw [sk_109' h2 h1 c5]
    refine wp_b1 (wp_mono tk ?_)
    intro K hK
    obtain ⟨fr1, fr2⟩ := MR_f hK
    have k80 : K 80 = I 80 := fr1 80 (by decide) (by decide) (by decide)
    by_cases c8 : kd = 8
    · subst c8
      unfold m_240_j161
      rw [if_pos (show ai_cmp (WC 8) 20194516 = 0 from W_eq 8 (by decide))]
      refine wp_b1 (wp_mono (s_234 hK) ?_)
      intro K2 hK2
      rw [sk_173 h2 (by decide), sk_185 h2 (by decide), sk_199 h2 (by decide), sk_219 h2 (by decide) (by decide), sk_277 h2 (by decide), sk_299 h2 (by decide), wp_s]
      exact Or.inr ⟨rfl, _, _, _, hK2, Or.inl ⟨_, _, rfl, rfl, ⟨b1, b2, b3, b4⟩, s, hs, e1, rfl, rfl, fun _ _ => rfl⟩⟩
    · rw [sk_161 h2 c8]
      by_cases c10 : kd = 10
      · subst c10
        unfold m_240_j173
        rw [if_pos (show ai_cmp (WC 10) 3764 = 0 from W_eq 10 (by decide))]
        refine wp_b1 (wp_mono (s_235 hK) ?_)
        rintro K2 ⟨D, hK2, hD⟩
        rw [sk_185 h2 (by decide), sk_199 h2 (by decide), sk_219 h2 (by decide) (by decide), sk_277 h2 (by decide), sk_299 h2 (by decide), wp_s]
        rw [i_sub (by omega)] at hK2
        refine Or.inr ⟨rfl, _, _, _, hK2, ?_⟩
        by_cases ho : 2 ≤ A.2.1 s
        · exact Or.inl ⟨_, _, rfl, rfl, ⟨b1, b2, by omega, by omega⟩, s, hs, e1, rfl, by show A.2.1 s - 1 + 1 = A.2.1 s; omega, fun j hj => MX_cong (hD j hj) (fun z => cdt_8 hWF)⟩
        · refine Or.inr ⟨fun h => by have := ((opn_i (by omega) (by omega) (by omega)).1 h).2.1; omega, fun n r D hD => ?_⟩
          obtain ⟨⟨d1, d2, d3, d4⟩, s', d5, d6, d7, d8, -⟩ := hD
          obtain rfl := hs' s' d5 d6
          dsimp only [SVf] at d8
          omega
      · rw [sk_173 h2 c10]
        by_cases c11 : kd = 11
        · subst c11
          unfold m_240_j185
          rw [if_pos (show ai_cmp (WC 11) 10143540268 = 0 from W_eq 11 (by decide))]
          refine wp_b1 (wp_mono (s_238 (by omega) hK) ?_)
          intro K2 hK2
          rw [sk_199 h2 (by decide), sk_219 h2 (by decide) (by decide), sk_277 h2 (by decide), sk_299 h2 (by decide), wp_s]
          exact Or.inr ⟨rfl, _, _, _, hK2, Or.inl ⟨_, _, rfl, rfl, ⟨b1, b2, b3, b4⟩, s, hs, e1, rfl, rfl, fun _ _ => rfl⟩⟩
        · rw [sk_185 h2 c11]
          by_cases c12 : kd = 12
          · subst c12
            obtain ⟨D, hD⟩ := cdt_ex (V := FV I s) (w := false) (m := A.1 s)
            unfold m_240_j199
            rw [if_pos (show ai_cmp (WC 12) 18916965 = 0 from W_eq 12 (by decide))]
            have key := s_raise (t := t) (L := L) hWF hD hK
            obtain ⟨K4, e4, hK4⟩ := key
            have : o_b1 (m_230 75 K (Rc t) (Gc L)) (fun I_208 => o_b1 (m_235 75 I_208 (Rc t) (Gc L)) (fun I_212 => o_b1 (m_230 75 I_212 (Rc t) (Gc L)) (fun I_216 => m_240_j219 75 (WC 12) (nI a) (Rc t) (Gc L) (nI s) I_216))) = m_240_j219 75 (WC 12) (nI a) (Rc t) (Gc L) (nI s) K4 := by
              cases q1 : m_230 75 K (Rc t) (Gc L) with
              | none => rw [q1] at e4; cases e4
              | some Ka =>
                rw [q1] at e4
                rw [o_b1_s] at e4 ⊢
                cases q2 : m_235 75 Ka (Rc t) (Gc L) with
                | none => rw [q2] at e4; cases e4
                | some Kb =>
                  rw [q2] at e4
                  rw [o_b1_s] at e4 ⊢
                  rw [e4, o_b1_s]
            rw [this, sk_219 h2 (by decide) (by decide), sk_277 h2 (by decide), sk_299 h2 (by decide), wp_s]
            refine Or.inr ⟨rfl, _, _, _, hK4, ?_⟩
            by_cases ho : A.2.1 s + 1 < A.1 s
            · exact Or.inl ⟨_, _, rfl, rfl, ⟨b1, b2, by omega, ho⟩, s, hs, e1, rfl, rfl, hD⟩
            · refine Or.inr ⟨fun h => ho ((opn_i (by omega) (by omega) (by omega)).1 h).2.2, fun n r D hD => ?_⟩
              obtain ⟨⟨d1, d2, d3, d4⟩, s', d5, d6, d7, d8, -⟩ := hD
              obtain rfl := hs' s' d5 d6
              dsimp only [SVf] at d7 d8
              omega
          · rw [sk_199 h2 c12]
            have less : ∀ w : Bool, ((kd = 6 ∧ w = false) ∨ (kd = 7 ∧ w = true)) → wp (m_240_j235 75 (WC kd) (nI a) (Rc t) (Gc L) (nI s) K) (RMk I A kd c (b - a)) := fun w hkw => by
              obtain ⟨u1, e, u2, u3⟩ := f3 (by omega)
              have n2 : K (Rc t 75 15) (nI a + nI 2).toNatClampNeg = nI e := (v2 K k80).trans ((hN 2 (by omega)).trans u3)
              have rd : ∀ n r D, DRk (SVf I A) kd c (b - a) n r D → (2 ≤ n ∧ n ≤ 8 ∧ 1 ≤ r ∧ r < n) ∧ e < A.1 s ∧ n = A.1 s - 1 ∧ r = A.2.1 s - w.toNat := fun n r D hD => by
                rcases hkw with ⟨rfl, rfl⟩ | ⟨rfl, rfl⟩
                · obtain ⟨hg, s', e', d1, d2, d3, d4, d5, d6, -⟩ := hD
                  obtain rfl := hs' s' d1 d2
                  obtain rfl := n_in (by omega) (by omega) d3 u3
                  exact ⟨hg, d4, d5, d6⟩
                · obtain ⟨hg, s', e', d1, d2, d3, d4, d5, d6, -⟩ := hD
                  obtain rfl := hs' s' d1 d2
                  obtain rfl := n_in (by omega) (by omega) d3 u3
                  exact ⟨hg, d4, d5, d6⟩
              have hbit : (if ai_cmp (WC kd) 89 = 0 then m_240_j274 75 (WC kd) (nI a) (Rc t) (Gc L) (nI s) K (nI 1) else m_240_j274 75 (WC kd) (nI a) (Rc t) (Gc L) (nI s) K (nI 0)) = m_240_j274 75 (WC kd) (nI a) (Rc t) (Gc L) (nI s) K (nI w.toNat) := by
                rcases hkw with ⟨rfl, rfl⟩ | ⟨rfl, rfl⟩
                · exact if_neg (W_ne 6 (by decide) 7 (by decide) (by decide))
                · exact if_pos (W_eq 7 (by decide))
              unfold m_240_j235
              rw [g2, o_g_t]
              by_cases ce : e < A.1 s
              · rw [if_pos (show K (Rc t 75 15) (nI a + nI 2).toNatClampNeg < K 75 18 by rw [n2, hK.2.2.1]; exact nI_lt ce (by omega)), o_g_t, hbit]
                unfold m_240_j274
                rw [n2]
                refine wp_b1 (wp_mono (s_232 (w := w) (by omega) b3 (by omega) hK) ?_)
                intro K2 hK2
                have k69 : ¬ kd = 9 := by omega
                have k613 : ¬ kd = 13 := by omega
                rw [sk_277 h2 k69, sk_299 h2 k613, wp_s]
                have hw1 : w.toNat ≤ 1 := by cases w <;> decide
                refine Or.inr ⟨rfl, _, _, _, hK2, ?_⟩
                by_cases ho : (2 ≤ A.1 s - 1 ∧ A.1 s - 1 ≤ 8) ∧ 1 ≤ A.2.1 s - w.toNat ∧ A.2.1 s - w.toNat < A.1 s - 1
                · refine Or.inl ⟨_, _, rfl, rfl, ⟨ho.1.1, ho.1.2, ho.2.1, ho.2.2⟩, ?_⟩
                  rcases hkw with ⟨rfl, rfl⟩ | ⟨rfl, rfl⟩
                  · exact ⟨s, e, hs, e1, u3, ce, rfl, rfl, fun _ _ => rfl⟩
                  · exact ⟨s, e, hs, e1, u3, ce, rfl, rfl, fun _ _ => rfl⟩
                · refine Or.inr ⟨fun h => ho ((opn_i (by omega) (by omega) (by omega)).1 h), fun n r D hD => ho ?_⟩
                  obtain ⟨⟨d1, d2, d3, d4⟩, -, d5, d6⟩ := rd n r D hD
                  rw [← d5, ← d6]
                  exact ⟨⟨d1, d2⟩, d3, d4⟩
              · rw [if_neg (show ¬ K (Rc t 75 15) (nI a + nI 2).toNatClampNeg < K 75 18 by rw [n2, hK.2.2.1]; exact nI_nlt (by omega) (by omega)), wp_s]
                exact Or.inl ⟨rfl, ⟨fr1, fr2⟩, fun n r D hD => ce (rd n r D hD).2.1⟩
            by_cases c6 : kd = 6
            · unfold m_240_j219
              rw [if_pos (show ai_cmp (WC kd) 25019301556 = 0 by rw [c6]; exact W_eq 6 (by decide))]
              exact less false (Or.inl ⟨c6, rfl⟩)
            · by_cases c7 : kd = 7
              · unfold m_240_j219
                rw [if_neg (show ¬ ai_cmp (WC kd) 25019301556 = 0 from W_ne kd h2 6 (by decide) c6), if_pos (show ai_cmp (WC kd) 89 = 0 by rw [c7]; exact W_eq 7 (by decide))]
                exact less true (Or.inr ⟨c7, rfl⟩)
              · rw [sk_219 h2 c6 c7]
                have hk9 : kd = 9 ∨ kd = 13 := by omega
                obtain ⟨u1, s2, u2, u3⟩ := f4 hk9
                have hs2 : s2 < 4 := by omega
                have hW2 := hA s2 hs2
                obtain ⟨j1, j2, j3⟩ := hR.1 s2 hs2
                have hWF2 : WF (A.1 s2) (A.2.1 s2) (FV I s2) := WF_cong (fun k hk => (j3 k hk).symm) hW2
                have d2' := hW2.2.1
                have d3' := hW2.2.2.1
                have d4' := hW2.2.2.2.1
                have hs2' : ∀ s', s' < 4 → c 2 = nI s' → s' = s2 := fun s' h h2 => n_in (by omega) (by omega) h2 u3
                have n2 : K (Rc t 75 15) (nI a + nI 2).toNatClampNeg = nI s2 := (v2 K k80).trans ((hN 2 (by omega)).trans u3)
                by_cases c9 : kd = 9
                · subst c9
                  unfold m_240_j277
                  rw [if_pos (show ai_cmp (WC 9) 537267 = 0 from W_eq 9 (by decide)), g2, o_g_t, n2]
                  refine wp_b1 (wp_mono (s_236 (by omega) (by omega) hWF hWF2 fr1 fr2 i1 i2 j1 j2) ?_)
                  rintro K2 ⟨D, hK2, hD⟩
                  rw [sk_299 h2 (by decide), wp_s]
                  refine Or.inr ⟨rfl, _, _, _, hK2, ?_⟩
                  by_cases ho : A.1 s + A.1 s2 ≤ 8
                  · rw [hD ho, show min 9 (A.1 s + A.1 s2) = A.1 s + A.1 s2 by omega]
                    exact Or.inl ⟨_, _, rfl, rfl, ⟨by omega, ho, by omega, by omega⟩, s, s2, hs, hs2, e1, u3, rfl, rfl, fun _ _ => rfl⟩
                  · refine Or.inr ⟨fun h => by have := ((opn_i (by omega) (by omega) (by omega)).1 h).1.2; omega, fun n r D hD => ?_⟩
                    obtain ⟨⟨d1, d2, d3, d4⟩, s', s2', d5, d6, d7, d8, d9, d10, -⟩ := hD
                    obtain rfl := hs' s' d5 d7
                    obtain rfl := hs2' s2' d6 d8
                    dsimp only [SVf] at d9
                    omega
                · obtain rfl : kd = 13 := by omega
                  rw [sk_277 h2 (by decide)]
                  have k76 : K 76 = I 76 := fr1 76 (by decide) (by decide) (by decide)
                  unfold m_240_j299
                  rw [if_pos (show ai_cmp (WC 13) 343342 = 0 from W_eq 13 (by decide)), s_195 (by omega), o_b1_s, g2, o_g_t, n2, s_195 (by omega), o_b1_s, k76, i1, j1]
                  by_cases cn : A.1 s = A.1 s2
                  · rw [if_pos (show nI (A.1 s) = nI (A.1 s2) by rw [cn]), o_g_t]
                    rw [← cn] at hWF2
                    refine wp_b1 (wp_mono (s_237 (by omega) (by omega) hWF hWF2 fr1 fr2 i1 i2 j2) ?_)
                    intro K2 hK2
                    rw [wp_s]
                    refine Or.inr ⟨rfl, _, _, _, hK2, ?_⟩
                    by_cases ho : A.2.1 s + A.2.1 s2 < A.1 s
                    · exact Or.inl ⟨_, _, rfl, rfl, ⟨b1, b2, by omega, ho⟩, s, s2, hs, hs2, e1, u3, cn, rfl, rfl, fun _ _ => rfl⟩
                    · refine Or.inr ⟨fun h => ho ((opn_i (by omega) (by omega) (by omega)).1 h).2.2, fun n r D hD => ?_⟩
                      obtain ⟨⟨d1, d2, d3, d4⟩, s', s2', d5, d6, d7, d8, d9, d10, d11, -⟩ := hD
                      obtain rfl := hs' s' d5 d7
                      obtain rfl := hs2' s2' d6 d8
                      dsimp only [SVf] at d9 d10 d11
                      omega
                  · rw [if_neg (show ¬ nI (A.1 s) = nI (A.1 s2) by rw [i_eq (by omega) (by omega)]; exact cn), wp_s]
                    refine Or.inl ⟨rfl, ⟨fr1, fr2⟩, fun n r D hD => cn ?_⟩
                    obtain ⟨-, s', s2', d5, d6, d7, d8, d9, -⟩ := hD
                    obtain rfl := hs' s' d5 d7
                    obtain rfl := hs2' s2' d6 d8
                    exact d9
