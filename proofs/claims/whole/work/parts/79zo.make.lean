/-! Tables, made by the reference. -/
theorem eb_1 {a b q : Nat} (hab : a ≤ b) (hb : b ≤ 100) (h : b - a = 3 + 2 * q) : b = a + 3 + 2 * q ∧ a + 3 + 2 * q ≤ 120 := by omega
theorem s_240a {I : ai_I} {t L kd a b : Nat} {A : SV} {c : Nat → Int32} (h1 : 1 ≤ kd) (h2 : kd ≤ 4) (hC : RCd I a b c) (hF : CFk kd c (b - a)) : wp (m_240 75 (WC kd) (nI a) (nI b) I (Rc t) (Gc L)) (RMk I A kd c (b - a)) := by
  obtain ⟨hab, hb, hN⟩ := hC
  obtain ⟨hcnt, x, y, ⟨⟨s, -, -⟩, e1, e2⟩, x1, x2, y1, y2, y3, y4⟩ := hd_of hF h1 h2
  have n1 : I 80 (a + 1) = nI x := (hN 1 (by omega)).trans e1
  have n2 : I 80 (a + 2) = nI y := (hN 2 (by omega)).trans e2
  have g1 : o_in (Gc L) 13 (Rc t 75 15) (nI a + nI 1) = true := by rw [r_75_15, i_add]; exact g_80 (by omega)
  have g2 : o_in (Gc L) 13 (Rc t 75 15) (nI a + nI 2) = true := by rw [r_75_15, i_add]; exact g_80 (by omega)
  have v1 : I (Rc t 75 15) (nI a + nI 1).toNatClampNeg = nI x := by rw [r_75_15, i_add, i_cl (by omega)]; exact n1
  have v2 : I (Rc t 75 15) (nI a + nI 2).toNatClampNeg = nI y := by rw [r_75_15, i_add, i_cl (by omega)]; exact n2
  have f1 : ∀ x, ¬ x = 75 → ¬ x = 81 → ¬ x = 82 → I x = I x := fun _ _ _ _ => rfl
  have f2 : ∀ j, ¬ j = 18 → ¬ j = 19 → I 75 j = I 75 j := fun _ _ _ => rfl
  by_cases k1 : kd = 1
  · subst k1
    have := y3 (by decide)
    unfold m_240
    rw [g1, o_g_t, o_b1_s, show ai_cmp (WC 1) 23027990093 = 0 from W_eq 1 (by decide), if_pos rfl, g2, o_g_t, v1, v2]
    refine wp_b1 (wp_mono (s_224 (n := x) (r := y) x2 (by omega) f1 f2) ?_)
    intro K hK
    rw [sk_32 (by decide) (by decide), sk_57 (by decide) (by decide), sk_82 (by decide) (by decide), sk_109 (by decide) (by decide), wp_s]
    exact Or.inr ⟨rfl, _, _, _, hK, Or.inl ⟨x, y, rfl, rfl, ⟨x1, x2, y1, this⟩, e1, e2, fun _ _ => rfl⟩⟩
  · rw [sk_0 (by omega) k1 _ _ g1 v1]
    by_cases k2 : kd = 2
    · subst k2
      have hyx := y3 (by decide)
      have hF' := hF
      unfold CFk at hF'
      rw [if_neg (by decide), if_neg (by decide), if_neg (by decide)] at hF'
      obtain ⟨x', y', ⟨-, q1, q2⟩, -, q8, -, q9, -, q3, -⟩ := hF'
      obtain rfl := n_in (by omega) (by omega) e1 q1
      obtain rfl := n_in (by omega) (by omega) e2 q2
      obtain ⟨q4, q5⟩ := q3 rfl
      obtain ⟨B, hB⟩ := BST_ex (w := fun q e => c (3 + q * x + e)) (n := x) (r := y) x2 (2 ^ x) (p2_le x2)
      have hm : ∀ q e, q < y → e < x → q * x + e < x * y := fun q e hq he => by
        have := Nat.mul_le_mul_right x (show q + 1 ≤ y by omega)
        rw [Nat.add_mul, Nat.one_mul, Nat.mul_comm y x] at this
        omega
      have l1 : (-999 : Int32).toInt = -999 := by decide
      have l2 : (nI 999).toInt = 999 := by decide
      unfold m_240_j32
      rw [show ai_cmp (WC 2) 13684840 = 0 from W_eq 2 (by decide), if_pos rfl, g2, o_g_t, v2, i_add]
      refine wp_b1 (wp_mono (s_225 (n := x) (r := y) (at' := a + 3) (B := B) (w := fun q e => c (3 + q * x + e)) x2 (by omega) (by omega) (fun q e hq he => ?_) hB (fun q e hq he => ?_) f1 f2) ?_)
      · have := hm q e hq he
        rw [Nat.mul_comm x q, show a + 3 + q * x + e = a + (3 + (q * x + e)) by omega, hN _ (by omega), show 3 + (q * x + e) = 3 + q * x + e by omega]
      · have := q5 (q * x + e) (hm q e hq he)
        rw [Int32.le_iff_toInt_le, Int32.le_iff_toInt_le, l1, l2, show 3 + (q * x + e) = 3 + q * x + e by omega] at this
        exact this
      · intro K hK
        rw [sk_57 (by decide) (by decide), sk_82 (by decide) (by decide), sk_109 (by decide) (by decide), wp_s]
        exact Or.inr ⟨rfl, _, _, _, hK, Or.inl ⟨x, y, rfl, rfl, ⟨x1, x2, y1, hyx⟩, e1, e2, B, hB, fun _ _ => rfl⟩⟩
    · rw [sk_32 (by omega) k2]
      by_cases k3 : kd = 3
      · subst k3
        have hy2 := y4 rfl
        have hF' := hF
        unfold CFk at hF'
        rw [if_neg (by decide), if_neg (by decide), if_pos rfl] at hF'
        obtain ⟨x', y', ⟨-, q1, q2⟩, -, q8, -, q9, q3, q4⟩ := hF'
        obtain rfl := n_in (by omega) (by omega) e1 q1
        obtain rfl := n_in (by omega) (by omega) e2 q2
        unfold m_240_j57
        rw [show ai_cmp (WC 3) 7931400 = 0 from W_eq 3 (by decide), if_pos rfl, g2, o_g_t, v2, i_add, show y = y - 1 + 1 by omega]
        refine wp_b1 (wp_mono (s_227 (n := x) (r := y - 1) (at' := a + 3) (c := fun i => (c (3 + i)).toNatClampNeg) x2 (by omega) (by omega) (fun i hi => ?_) f1 f2) ?_)
        · obtain ⟨u, u1, u2⟩ := q4 i hi
          rw [show a + 3 + i = a + (3 + i) by omega, hN _ (by omega), u2, i_cl (by omega)]
          exact ⟨by omega, rfl⟩
        · intro K hK
          rw [sk_82 (by decide) (by decide), sk_109 (by decide) (by decide), wp_s]
          refine Or.inr ⟨rfl, _, _, _, hK, ?_⟩
          by_cases ho : y - 1 < x
          · exact Or.inl ⟨x, y - 1, rfl, rfl, ⟨x1, x2, by omega, ho⟩, e1, by rw [show y - 1 + 1 = y by omega]; exact e2, fun _ _ => rfl⟩
          · refine Or.inr ⟨fun h => ho ((opn_i (by omega) (by omega) (by omega)).1 h).2.2, fun n r D hD => ?_⟩
            obtain ⟨⟨d1, d2, d3, d4⟩, d5, d6, -⟩ := hD
            have := n_in (by omega) (by omega) d5 e1
            have := n_in (by omega) (by omega) d6 e2
            omega
      · rw [sk_57 (by omega) k3]
        obtain rfl : kd = 4 := by omega
        have hyx := y3 (by decide)
        have hF' := hF
        unfold CFk at hF'
        rw [if_neg (by decide), if_neg (by decide), if_neg (by decide)] at hF'
        obtain ⟨x', y', ⟨-, q1, q2⟩, -, q8, -, q9, -, -, q3⟩ := hF'
        obtain rfl := n_in (by omega) (by omega) e1 q1
        obtain rfl := n_in (by omega) (by omega) e2 q2
        obtain ⟨q, q4, q5, q6⟩ := q3 rfl
        obtain ⟨eb1, eb2⟩ := eb_1 hab hb q4
        clear q3
        have h8 := p2_le x2
        unfold m_240_j82
        rw [show ai_cmp (WC 4) 671108 = 0 from W_eq 4 (by decide), if_pos rfl, g2, o_g_t, v2, i_add, eb1]
        refine wp_b1 (wp_mono (s_228 (n := nI x) (r := nI y) (at' := a + 3) (q := q) (S := fun i => (c (3 + 2 * i)).toNatClampNeg) (Y := fun i => c (3 + 2 * i + 1)) eb2 (fun i hi => ?_) (fun i j hij hj => ?_) f1 f2) ?_)
        · obtain ⟨⟨u, u1, -, u2⟩, -⟩ := q5 i hi
          rw [show a + 3 + 2 * i = a + (3 + 2 * i) by omega, hN _ (by omega), show a + (3 + 2 * i) + 1 = a + (3 + 2 * i + 1) by omega, hN _ (by omega), u2, i_cl (by omega)]
          exact ⟨by omega, rfl, rfl⟩
        · obtain ⟨⟨u, u1, -, u2⟩, -⟩ := q5 i (by omega)
          obtain ⟨⟨v, w1, -, w2⟩, -⟩ := q5 j hj
          have := q6 i j hij hj
          rw [u2, w2, i_cl (by omega), i_cl (by omega)]
          rw [u2, w2, i_eq (by omega) (by omega)] at this
          exact this
        · intro K hK
          rw [sk_109 (by decide) (by decide), wp_s, ← eb1]
          exact Or.inr ⟨rfl, _, _, _, hK, Or.inl ⟨x, y, rfl, rfl, ⟨x1, x2, y1, hyx⟩, e1, e2, q, q4, fun _ _ => rfl⟩⟩
