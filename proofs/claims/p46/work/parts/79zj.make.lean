/-! Out of whole's part 79zj.make, by wip/p46/extract.py. -/
theorem bzv {v : Int32} (h : v = nI 0 ∨ v = nI 1) : o_bz v = true := by
  rcases h with rfl | rfl
  · decide
  · decide
theorem MO_bz {I : ai_I} {A : SV} {kd cnt : Nat} {c : Nat → Int32} {q : Int32 × ai_I} (h : MOut I A kd c cnt q) : o_bz q.1 = true := by
  rcases h.2 with ⟨h, _⟩ | ⟨h, _⟩
  · exact bzv (Or.inl h)
  · exact bzv (Or.inr h)
/-- one of the roads of m_40 -/
theorem c_40s {I : ai_I} {A : SV} {kd cnt : Nat} {c : Nat → Int32} {x : Option (Int32 × ai_I)} (h : wp x (MOut I A kd c cnt)) : wp (o_b2 x (fun r I => o_g (o_bz r) (some (r, I)))) (MOut I A kd c cnt) := by
  refine wp_b2 (wp_mono h ?_)
  rintro ⟨v, J⟩ hJ
  dsimp only
  rw [MO_bz hJ, o_g_t, wp_s]
  exact hJ
theorem s4_v {s : Nat} (h : s < 4) : 6 + 4 * s < 40 := by omega
theorem c_40 {I : ai_I} {t kd cnt s : Nat} {L : ai_G} {A : SV} {c : Nat → Int32} {third : Int32} (h1 : 4 < kd) (h2 : kd < 14) (hA : WFA A) (hI : CAs I A) (hF : CFk kd c cnt) (hs : s < 4) (e1 : c 1 = nI s) (e2 : 3 ≤ cnt → third = c 2) : wp (m_29 49 (nI kd) (6 + 4 * s) third 2 I (Rc t) (Gc L)) (MOut I A kd c cnt) := by
  have hW := hA s hs
  have hS := hI.1 s hs
  have hv := vc_s hs
  have hv4 := s4_v hs
  have hn8 := hW.2.1
  have hpr : ∀ z, prs (I 4) z = prs A.2.2.2 z := fun z => prs_cong (fun e he => hI.2 e he) z
  have ne : ∀ x y, x < 14 → y < 14 → ¬ x = y → ¬ nI x = nI y := fun x y hx hy h => by
    rw [i_eq (by omega) (by omega)]
    exact h
  have hF' := hF
  unfold CFk at hF'
  rw [if_neg (by omega), if_pos h1] at hF'
  obtain ⟨f1, -, -, f3, f4⟩ := hF'
  have hs' : ∀ s', s' < 4 → c 1 = nI s' → s' = s := fun s' h h2 => n_in (by omega) (by omega) h2 e1
  unfold m_29
  by_cases c5 : kd = 5
  · subst c5
    rw [if_pos (show nI 5 = 5 from rfl)]
    refine c_40s (wp_mono (c_49 hv hv4 hW hS) ?_)
    rintro ⟨v, J⟩ ⟨rfl, hM⟩
    exact MO_y hM ⟨⟨hW.1, hn8, by have := hW.2.2.2.1; omega, by have := hW.2.2.1; have := hW.2.2.2.1; omega⟩, s, hs, e1, rfl, rfl, fun _ _ => rfl⟩
  · rw [if_neg (show ¬ nI kd = 5 from ne kd 5 h2 (by decide) c5)]
    have less : ∀ w : Bool, (kd = 6 ∧ w = false) ∨ (kd = 7 ∧ w = true) → wp (m_39 49 (6 + 4 * s) third (nI w.toNat) I (Rc t) (Gc L)) (MOut I A kd c cnt) := fun w hkw => by
      obtain ⟨g1, e, g2, g3⟩ := f3 (by omega)
      rw [e2 g1, g3]
      -- what the clause asks for, read off
      have rd : ∀ n r D, DRk A kd c cnt n r D → (2 ≤ n ∧ n ≤ 8 ∧ 1 ≤ r ∧ r < n) ∧ e < A.1 s ∧ n = A.1 s - 1 ∧ r = A.2.1 s - w.toNat := fun n r D hD => by
        rcases hkw with ⟨rfl, rfl⟩ | ⟨rfl, rfl⟩
        · obtain ⟨hg, s', e', d1, d2, d3, d4, d5, d6, -⟩ := hD
          obtain rfl := hs' s' d1 d2
          obtain rfl := n_in (by omega) (by omega) d3 g3
          exact ⟨hg, d4, d5, d6⟩
        · obtain ⟨hg, s', e', d1, d2, d3, d4, d5, d6, -⟩ := hD
          obtain rfl := hs' s' d1 d2
          obtain rfl := n_in (by omega) (by omega) d3 g3
          exact ⟨hg, d4, d5, d6⟩
      by_cases c1 : e < A.1 s
      · refine wp_mono (c_50 (w := w) hv hv4 hW hS c1) ?_
        rintro ⟨v, J⟩ (⟨rfl, hb⟩ | ⟨rfl, hM⟩)
        · dsimp only at hb
          obtain ⟨rfl, hb⟩ := hb
          refine MO_n (fun n r D hD => hb ?_)
          obtain ⟨⟨d1, d2, d3, d4⟩, -, d5, d6⟩ := rd n r D hD
          rw [← d5, ← d6]
          exact (opn_i (by omega) (by omega) (by omega)).2 ⟨⟨d1, d2⟩, d3, d4⟩
        · obtain ⟨hg, hM⟩ := hM
          rcases hkw with ⟨rfl, rfl⟩ | ⟨rfl, rfl⟩
          · exact MO_y hM ⟨⟨hg.1, by omega, hg.2.1, hg.2.2⟩, s, e, hs, e1, g3, c1, rfl, rfl, fun _ _ => rfl⟩
          · exact MO_y hM ⟨⟨hg.1, by omega, hg.2.1, hg.2.2⟩, s, e, hs, e1, g3, c1, rfl, rfl, fun _ _ => rfl⟩
      · unfold m_39
        rw [v_kd hv, o_g_t, c_120, o_b1_s, hS.1, q_bz, if_neg (show ¬ (0 ≤ nI e ∧ nI e < nI (A.1 s)) from fun h => nI_nlt (by omega) (by omega) h.2), wp_s]
        exact MO_n (fun n r D hD => c1 (rd n r D hD).2.1)
    by_cases c6 : kd = 6
    · rw [if_pos (show nI kd = 6 by rw [c6]; rfl)]
      exact c_40s (less false (Or.inl ⟨c6, rfl⟩))
    · rw [if_neg (show ¬ nI kd = 6 from ne kd 6 h2 (by decide) c6)]
      by_cases c7 : kd = 7
      · rw [if_pos (show nI kd = 7 by rw [c7]; rfl)]
        exact c_40s (less true (Or.inr ⟨c7, rfl⟩))
      · rw [if_neg (show ¬ nI kd = 7 from ne kd 7 h2 (by decide) c7)]
        by_cases c8 : kd = 8
        · subst c8
          rw [if_pos (show nI 8 = 8 from rfl), k_2, o_g_t, r_2_1]
          refine c_40s (wp_mono (c_51 hv hv4 hW hS) ?_)
          rintro ⟨v, J⟩ ⟨rfl, hM⟩
          exact MO_y hM ⟨⟨hW.1, hn8, hW.2.2.1, hW.2.2.2.1⟩, s, hs, e1, rfl, rfl, fun j _ => by unfold shi; rw [hpr]⟩
        · rw [if_neg (show ¬ nI kd = 8 from ne kd 8 h2 (by decide) c8)]
          by_cases c9 : kd = 9
          · subst c9
            obtain ⟨g1, s2, g2', g3⟩ := f4 (Or.inl rfl)
            have g2 : s2 < 4 := by omega
            have hW2 := hA s2 g2
            have hS2 := hI.1 s2 g2
            have hv2 := vc_s g2
            have hs2' : ∀ s', s' < 4 → c 2 = nI s' → s' = s2 := fun s' h h2 => n_in (by omega) (by omega) h2 g3
            rw [if_pos (show nI 9 = 9 from rfl), k_2, o_g_t, e2 g1, g3, c_96 (by omega), o_b1_s]
            refine c_40s ?_
            unfold m_41
            have b2 := hW2.2.1
            have b3 := hW2.2.2.2.1
            have b4 := hW.2.2.2.1
            have b5 := hW.1
            rw [if_neg (by omega), v_kd hv, o_g_t, v_kd hv2, o_g_t, hS.1, hS.2.1, hS2.1, hS2.2.1, i_add, i_add]
            refine wp_b2 (c_41' (by omega) (by omega) (by omega) (fun hb => ?_) (fun J p1 p2 p3 p4 hM => ?_))
            · rw [q_00, wp_s]
              refine MO_n (fun n r D hD => hb ?_)
              obtain ⟨⟨d1, d2, d3, d4⟩, s', s2', d5, d6, d7, d8, d9, d10, -⟩ := hD
              obtain rfl := hs' s' d5 d7
              obtain rfl := hs2' s2' d6 d8
              omega
            · rw [if_neg (show ¬ nI 1 = 0 by decide)]
              refine wp_mono (c_52l hv hv4 hW hS hv2 (s4_v g2) hW2 hS2 p2 hM) ?_
              rintro ⟨v, K⟩ ⟨rfl, hK⟩
              exact MO_y hK ⟨⟨p1, p2, p3, p4⟩, s, s2, hs, g2, e1, g3, rfl, rfl, fun _ _ => rfl⟩
          · rw [if_neg (show ¬ nI kd = 9 from ne kd 9 h2 (by decide) c9)]
            by_cases c10 : kd = 10
            · subst c10
              have b4 := hW.2.2.2.1
              have b5 := hW.1
              have b6 := hW.2.2.1
              rw [if_pos (show nI 10 = 10 from rfl)]
              refine c_40s ?_
              unfold m_42
              rw [v_kd hv, o_g_t, hS.1, hS.2.1, i_sub (by omega)]
              refine wp_b2 (c_41' (by omega) (by omega) (by omega) (fun hb => ?_) (fun J p1 p2 p3 p4 hM => ?_))
              · rw [q_00, wp_s]
                refine MO_n (fun n r D hD => hb ?_)
                obtain ⟨⟨d1, d2, d3, d4⟩, s', d5, d6, d7, d8, -⟩ := hD
                obtain rfl := hs' s' d5 d6
                omega
              · rw [if_neg (show ¬ nI 1 = 0 by decide), show nI 1 = bz (true = true) from rfl]
                refine wp_b1 (wp_mono (c_55 hv hv4 hW hS hM) ?_)
                rintro K ⟨D, hK, hD⟩
                rw [wp_s]
                exact MO_y hK ⟨⟨p1, p2, p3, p4⟩, s, hs, e1, rfl, by omega, hD⟩
            · rw [if_neg (show ¬ nI kd = 10 from ne kd 10 h2 (by decide) c10)]
              by_cases c11 : kd = 11
              · subst c11
                rw [if_pos (show nI 11 = 11 from rfl), k_2, o_g_t, r_2_1]
                refine c_40s (wp_mono (c_56 hv hv4 hW hS) ?_)
                rintro ⟨v, J⟩ ⟨rfl, hM⟩
                refine MO_y hM ⟨⟨hW.1, hn8, hW.2.2.1, hW.2.2.2.1⟩, s, hs, e1, rfl, rfl, fun j _ => ?_⟩
                rw [show (fun x => A.2.2.1 s x + prs (I 4) x) = fun x => A.2.2.1 s x + prs A.2.2.2 x from funext (fun x => by rw [hpr])]
              · rw [if_neg (show ¬ nI kd = 11 from ne kd 11 h2 (by decide) c11)]
                by_cases c12 : kd = 12
                · subst c12
                  have b4 := hW.2.2.2.1
                  have b5 := hW.1
                  rw [if_pos (show nI 12 = 12 from rfl)]
                  refine c_40s ?_
                  unfold m_43
                  rw [v_kd hv, o_g_t, hS.1, hS.2.1, i_add]
                  refine wp_b2 (c_41' (by omega) (by omega) (by omega) (fun hb => ?_) (fun J p1 p2 p3 p4 hM => ?_))
                  · rw [q_00, wp_s]
                    refine MO_n (fun n r D hD => hb ?_)
                    obtain ⟨⟨d1, d2, d3, d4⟩, s', d5, d6, d7, d8, -⟩ := hD
                    obtain rfl := hs' s' d5 d6
                    omega
                  · rw [if_neg (show ¬ nI 1 = 0 by decide), show nI 0 = bz (false = true) from rfl]
                    refine wp_b1 (wp_mono (c_55 hv hv4 hW hS hM) ?_)
                    rintro K ⟨D, hK, hD⟩
                    rw [wp_s]
                    exact MO_y hK ⟨⟨p1, p2, p3, p4⟩, s, hs, e1, rfl, rfl, hD⟩
                · rw [if_neg (show ¬ nI kd = 12 from ne kd 12 h2 (by decide) c12)]
                  obtain rfl : kd = 13 := by omega
                  obtain ⟨g1, s2, g2', g3⟩ := f4 (Or.inr rfl)
                  have g2 : s2 < 4 := by omega
                  have hW2 := hA s2 g2
                  have hS2 := hI.1 s2 g2
                  have hv2 := vc_s g2
                  have hs2' : ∀ s', s' < 4 → c 2 = nI s' → s' = s2 := fun s' h h2 => n_in (by omega) (by omega) h2 g3
                  have b2 := hW2.2.1
                  have b3 := hW2.2.2.2.1
                  have b4 := hW.2.2.2.1
                  have b5 := hW.1
                  rw [if_pos (show nI 13 = 13 from rfl), k_2, o_g_t, e2 g1, g3, c_96 (by omega), o_b1_s]
                  refine c_40s ?_
                  unfold m_46
                  rw [c_185 hv hv2 hn8 b2 hS.1 hS2.1, o_b1_s, q_bz]
                  by_cases cn : A.1 s = A.1 s2
                  · rw [if_pos cn, v_kd hv, o_g_t, v_kd hv2, o_g_t, hS.1, hS.2.1, hS2.2.1, i_add]
                    refine wp_b2 (c_41' (by omega) (by omega) (by omega) (fun hb => ?_) (fun J p1 p2 p3 p4 hM => ?_))
                    · rw [q_00, wp_s]
                      refine MO_n (fun n r D hD => hb ?_)
                      obtain ⟨⟨d1, d2, d3, d4⟩, s', s2', d5, d6, d7, d8, d9, d10, d11, -⟩ := hD
                      obtain rfl := hs' s' d5 d7
                      obtain rfl := hs2' s2' d6 d8
                      omega
                    · rw [if_neg (show ¬ nI 1 = 0 by decide)]
                      refine wp_mono (c_57l hv hv4 hW hS hv2 (s4_v g2) hW2 hS2 hM) ?_
                      rintro ⟨v, K⟩ ⟨rfl, hK⟩
                      exact MO_y hK ⟨⟨p1, p2, p3, p4⟩, s, s2, hs, g2, e1, g3, cn, rfl, rfl, fun _ _ => rfl⟩
                  · rw [if_neg cn, wp_s]
                    refine MO_n (fun n r D hD => cn ?_)
                    obtain ⟨-, s', s2', d5, d6, d7, d8, d9, -⟩ := hD
                    obtain rfl := hs' s' d5 d7
                    obtain rfl := hs2' s2' d6 d8
                    exact d9
def COut (I : ai_I) (A : SV) (kd : Nat) (c : Nat → Int32) (cnt : Nat) (q : Int32 × ai_I) : Prop := (∀ x, ¬ x = 50 → ¬ x = 51 → ¬ x = 52 → ¬ x = 53 → ¬ x = 54 → q.2 x = I x) ∧ ((q.1 = nI 0 ∧ ¬ ∃ n r D, DRk A kd c cnt n r D ∧ okd D) ∨ (q.1 = nI 1 ∧ ∃ n r D, DRk A kd c cnt n r D ∧ okd D ∧ WF n r D ∧ CS q.2 50 n r D))
theorem c_38 {I : ai_I} {t m k kd a b : Nat} {L : ai_G} {A : SV} {c : Nat → Int32} (h1 : 1 ≤ kd) (h2 : kd < 14) (hA : WFA A) (hI : CAs I A) (hC : CCd I m k kd a b c) (hF : CFk kd c (b - a)) : wp (m_27 49 43 (nI k) 2 I (Rc t) (Gc L)) (COut I A kd c (b - a)) := by
  have okd_c : ∀ D D2 : Nat → Int32, (∀ j, j < 256 → D j = D2 j) → okd D2 → okd D := fun D D2 e ⟨⟨k, hk, hV⟩, h⟩ => ⟨⟨k, hk, by rw [e k hk]; exact hV⟩, fun j hj hV => by rw [e j hj] at hV ⊢; exact h j hj hV⟩
  -- behind the making: whether it is whole
  have whole : ∀ v J, MOut I A kd c (b - a) (v, J) → wp (m_27_j68 49 (Rc t) (Gc L) v J) (COut I A kd c (b - a)) := fun v J hM => by
    obtain ⟨fr, hM⟩ := hM
    dsimp only at fr hM
    unfold m_27_j68
    rcases hM with ⟨rfl, hn⟩ | ⟨rfl, n, r, D, I2, hMC, hD⟩
    · rw [q_00, wp_s]
      exact ⟨fun x p1 p2 _ _ p5 => fr x p1 p2 p5, Or.inl ⟨rfl, fun ⟨n, r, D, hD, _⟩ => hn ⟨n, r, D, hD⟩⟩⟩
    · have hDW := DRk_DW hA hF hD
      rw [if_neg (show ¬ nI 1 = 0 by decide)]
      refine wp_b2 (wp_mono (c_42 hMC hDW) ?_)
      rintro ⟨v, K⟩ ⟨g1, g2⟩
      dsimp only at g1 g2 ⊢
      have fr2 : ∀ x, ¬ x = 50 → ¬ x = 51 → ¬ x = 52 → ¬ x = 53 → ¬ x = 54 → K x = I x := fun x p1 p2 p3 p4 p5 => by rw [g1 x p1 p2 p3 p4, ← hMC.1 x p1 p2, fr x p1 p2 p5]
      rcases g2 with ⟨rfl, ok, hS⟩ | ⟨rfl, nok⟩
      · rw [if_neg (show ¬ nI 1 = 0 by decide), wp_s]
        exact ⟨fr2, Or.inr ⟨rfl, n, r, D, hD, ok, DW_WF hDW ok, hS⟩⟩
      · rw [q_00, wp_s]
        refine ⟨fr2, Or.inl ⟨rfl, fun ⟨n2, r2, D2, hD2, ok⟩ => nok ?_⟩⟩
        exact okd_c _ _ (DRk_un hD hD2).2.2 ok
  obtain ⟨q1, q2, q3, q4, q5, q6, q7, q8, q9⟩ := id hC
  unfold m_27
  rw [k_43, o_g_t, c_2 q3 q2 q1 q4, o_b1_s]
  by_cases c4 : 4 < kd
  · have hF' := hF
    unfold CFk at hF'
    rw [if_neg (by omega), if_pos c4] at hF'
    obtain ⟨f1, -, ⟨s, f2, f3⟩, -, -⟩ := hF'
    rw [if_pos (nI_lt c4 (by omega)), CCd_n hC (show 1 < b - a by omega), o_b1_s, k_2, o_g_t, f3, c_96 (by omega), o_b1_s, if_neg (by omega), c_4 q3 q2 q7 q8 (by decide) q1 q5 q6, o_b1_s]
    refine wp_b2 (wp_mono (c_40 (s := s) (cnt := b - a) c4 h2 hA hI hF (by omega) f3 (fun h => ?_)) ?_)
    · rw [if_pos (by omega), q9 2 (by omega)]
    · rintro ⟨v, J⟩ hM
      dsimp only
      have hM' := hM
      rcases hM.2 with ⟨hv, -⟩ | ⟨hv, -⟩
      · dsimp only at hv
        subst hv
        rw [q_00]
        unfold m_27_j65 m_27_j66
        exact whole _ _ hM'
      · dsimp only at hv
        subst hv
        rw [if_neg (show ¬ nI 1 = 0 by decide)]
        unfold m_27_j66
        exact whole _ _ hM'
  · rw [if_neg (nI_nlt (by omega) (by omega))]
    refine wp_b2 (wp_mono (c_39 (A := A) h1 (by omega) hC hF) ?_)
    rintro ⟨v, J⟩ hM
    exact whole v J hM
