/-! Out of whole's part 79zi.make, by wip/p46/extract.py. -/
def CAs (I : ai_I) (A : SV) : Prop := (∀ s, s < 4 → CS I (6 + 4 * s) (A.1 s) (A.2.1 s) (A.2.2.1 s)) ∧ ∀ e, e < 8 → I 4 e = A.2.2.2 e
/-- clause k of m as the class holds it -/
def CCd (I : ai_I) (m k kd a b : Nat) (c : Nat → Int32) : Prop := I 43 0 = nI m ∧ k < m ∧ m ≤ 16 ∧ I 45 k = nI kd ∧ I 46 k = nI a ∧ I 46 (k + 1) = nI b ∧ a ≤ b ∧ b ≤ 100 ∧ ∀ i, i < b - a → I 47 (a + i) = c i
theorem CCd_f {I J : ai_I} {m k kd a b : Nat} {c : Nat → Int32} (h : CCd I m k kd a b c) (e : ∀ x, 43 ≤ x → x ≤ 47 → J x = I x) : CCd J m k kd a b c := by
  unfold CCd
  rw [e 43 (by decide) (by decide), e 45 (by decide) (by decide), e 46 (by decide) (by decide), e 47 (by decide) (by decide)]
  exact h
theorem CCd_n {I : ai_I} {t m k kd a b i : Nat} {L : ai_G} {c : Nat → Int32} (h : CCd I m k kd a b c) (hi : i < b - a) : m_4 43 (nI k) (nI i) I (Rc t) (Gc L) = some (c i) := by
  obtain ⟨h1, h2, h3, h4, h5, h6, h7, h8, h9⟩ := h
  rw [c_4 h3 h2 h7 h8 (by omega) h1 h5 h6, if_pos hi, h9 i hi]
theorem CCd_RD {I : ai_I} {t m k kd a b : Nat} {L : ai_G} {c : Nat → Int32} (h : CCd I m k kd a b c) : RD I t L k c (b - a) := fun J e i hi => CCd_n (CCd_f h (fun x h1 h2 => e x (by omega) (by omega) (by omega))) hi
theorem CCd_3 {I : ai_I} {t m k kd a b : Nat} {L : ai_G} {c : Nat → Int32} (h : CCd I m k kd a b c) : m_3 43 (nI k) I (Rc t) (Gc L) = some (nI (b - a)) := by
  obtain ⟨h1, h2, h3, h4, h5, h6, h7, h8, h9⟩ := h
  exact c_3 h3 h2 h7 h1 h5 h6
def MOut (I : ai_I) (A : SV) (kd : Nat) (c : Nat → Int32) (cnt : Nat) (q : Int32 × ai_I) : Prop := (∀ x, ¬ x = 50 → ¬ x = 51 → ¬ x = 54 → q.2 x = I x) ∧ ((q.1 = nI 0 ∧ ¬ ∃ n r D, DRk A kd c cnt n r D) ∨ (q.1 = nI 1 ∧ ∃ n r D I2, MC I2 q.2 n r D ∧ DRk A kd c cnt n r D))
def opn (n r : Int32) : Prop := (nI 2 ≤ n ∧ n ≤ nI 8) ∧ nI 1 ≤ r ∧ r ≤ n - nI 1
theorem opn_i {a b : Nat} (h : 1 ≤ a) (ha : a < 1000) (hb : b < 1000) : opn (nI a) (nI b) ↔ (2 ≤ a ∧ a ≤ 8) ∧ 1 ≤ b ∧ b < a := by
  unfold opn
  rw [i_sub h, i_le (by omega) (by omega), i_le (by omega) (by omega), i_le (by omega) (by omega), i_le (by omega) (by omega)]
  omega
theorem MO_y {I J : ai_I} {A : SV} {kd cnt n r : Nat} {c D : Nat → Int32} (h : MC I J n r D) (hD : DRk A kd c cnt n r D) : MOut I A kd c cnt (nI 1, J) := ⟨fun x h1 h2 _ => h.1 x h1 h2, Or.inr ⟨rfl, n, r, D, I, h, hD⟩⟩
theorem MO_n {I : ai_I} {A : SV} {kd cnt : Nat} {c : Nat → Int32} (h : ∀ n r D, ¬ DRk A kd c cnt n r D) : MOut I A kd c cnt (nI 0, I) := ⟨fun _ _ _ _ => rfl, Or.inl ⟨rfl, fun ⟨n, r, D, hD⟩ => h n r D hD⟩⟩
/-- opened or not, by the class -/
theorem c_41' {I : ai_I} {t a b : Nat} {L : ai_G} {Q : Int32 × ai_I → Prop} (h : 1 ≤ a) (ha : a < 1000) (hb : b < 1000) (h0 : ¬ ((2 ≤ a ∧ a ≤ 8) ∧ 1 ≤ b ∧ b < a) → Q (nI 0, I)) (h1 : ∀ J, 2 ≤ a → a ≤ 8 → 1 ≤ b → b < a → MC I J a b (fun _ => NO) → Q (nI 1, J)) : wp (m_30 49 (nI a) (nI b) I (Rc t) (Gc L)) Q := by
  refine wp_mono (c_41 (nI a) (nI b)) ?_
  rintro ⟨v, J⟩ (⟨g1, g2, g3⟩ | ⟨g1, a', b', g2, g3, g4, g5, g6, g7, g8⟩)
  · dsimp only at g1 g2
    subst g1
    subst g2
    exact h0 (fun hh => g3 ((opn_i h ha hb).2 hh))
  · dsimp only at g1
    subst g1
    obtain rfl := n_in (x := nI a) (by omega) (by omega) rfl g6
    obtain rfl := n_in (x := nI b) (by omega) (by omega) rfl g7
    exact h1 J g3 g2 g4 g5 g8
theorem hd_of {kd cnt : Nat} {c : Nat → Int32} (h : CFk kd c cnt) (h1 : 1 ≤ kd) (h2 : kd ≤ 4) : 3 ≤ cnt ∧ ∃ a b, hd3 c a b ∧ 2 ≤ a ∧ a ≤ 8 ∧ 1 ≤ b ∧ b ≤ 7 ∧ (kd ≠ 3 → b < a) ∧ (kd = 3 → 2 ≤ b) := by
  unfold CFk at h
  rw [if_neg (by omega), if_neg (by omega)] at h
  by_cases c3 : kd = 3
  · rw [if_pos c3] at h
    obtain ⟨a, b, g1, g2, g3, g4, g5, g6, g7⟩ := h
    exact ⟨by omega, a, b, g1, g2, g3, by omega, by omega, fun hh => absurd c3 hh, fun _ => g4⟩
  · rw [if_neg c3] at h
    obtain ⟨a, b, g1, g2, g3, g4, g5, g6, g7, g8⟩ := h
    refine ⟨?_, a, b, g1, g2, g3, g4, by omega, fun _ => g5, fun hh => absurd hh c3⟩
    by_cases k1 : kd = 1
    · rw [g6 k1]
      omega
    · by_cases k2 : kd = 2
      · rw [(g7 k2).1]
        omega
      · have k4 : kd = 4 := by clear g1 g6 g7 g8; omega
        obtain ⟨q, q1, _⟩ := g8 k4
        omega
theorem c_39 {I : ai_I} {t m k kd a b : Nat} {L : ai_G} {A : SV} {c : Nat → Int32} (h1 : 1 ≤ kd) (h2 : kd ≤ 4) (hC : CCd I m k kd a b c) (hF : CFk kd c (b - a)) : wp (m_28 49 (nI kd) 43 (nI k) I (Rc t) (Gc L)) (MOut I A kd c (b - a)) := by
  obtain ⟨hcnt, x, y, ⟨⟨s, -, -⟩, e1, e2⟩, x1, x2, y1, y2, y3, y4⟩ := hd_of hF h1 h2
  have hb : b ≤ 100 := hC.2.2.2.2.2.2.2.1
  -- the rest, with the rank known
  have rest : ∀ z, z < 1000 → (kd = 3 → z + 1 = y) → (kd ≠ 3 → z = y) → wp (m_28_j22 49 (nI kd) 43 (nI k) I (Rc t) (Gc L) (nI z)) (MOut I A kd c (b - a)) := fun z hz z3 zn => by
    unfold m_28_j22
    rw [k_43, o_g_t, CCd_n hC (show 1 < b - a by omega), o_b1_s, e1]
    refine wp_b2 (c_41' (by omega) (by omega) hz (fun hb => ?_) (fun J _ _ g3 g4 hM => ?_))
    · rw [q_00, wp_s]
      refine MO_n (fun n r D hD => ?_)
      by_cases c3 : kd = 3
      · subst c3
        obtain ⟨⟨d1, d2, d3, d4⟩, d5, d6, -⟩ := hD
        have := n_in (by omega) (by omega) d5 e1
        have := n_in (by omega) (by omega) d6 e2
        have := z3 rfl
        omega
      · have := y3 c3
        have := zn c3
        omega
    · rw [if_neg (show ¬ nI 1 = 0 by decide)]
      by_cases k1 : kd = 1
      · subst k1
        obtain rfl := zn (by decide)
        rw [if_pos rfl]
        refine wp_b1 (wp_mono (c_43 x2 (by omega) hM) ?_)
        intro K hK
        rw [wp_s]
        exact MO_y hK ⟨⟨x1, x2, g3, g4⟩, e1, e2, fun _ _ => rfl⟩
      · rw [if_neg (show ¬ nI kd = nI 1 by rw [i_eq (by omega) (by omega)]; exact k1)]
        by_cases k2 : kd = 2
        · subst k2
          obtain rfl := zn (by decide)
          have hcc : b - a = 3 + x * z := by
            unfold CFk at hF
            rw [if_neg (by decide), if_neg (by decide), if_neg (by decide)] at hF
            obtain ⟨x', y', ⟨-, f1, f2⟩, -, f8, -, f9, -, f3, -⟩ := hF
            obtain rfl := n_in (by omega) (by omega) e1 f1
            obtain rfl := n_in (by omega) (by omega) e2 f2
            exact (f3 rfl).1
          rw [if_pos rfl]
          refine wp_b1 (wp_mono (c_44 (num := c) x2 g3 (by omega) (by rw [← hcc]; exact CCd_RD hC) hM) ?_)
          rintro K ⟨hB, hK⟩
          rw [wp_s]
          refine ⟨fun x' p1 p2 p3 => by dsimp only; rw [hK.1 x' p1 p2, up_ne p3], Or.inr ⟨rfl, x, z, _, _, hK, ⟨x1, x2, g3, g4⟩, e1, e2, K 54, hB, fun _ _ => rfl⟩⟩
        · rw [if_neg (show ¬ nI kd = nI 2 by rw [i_eq (by omega) (by omega)]; exact k2)]
          by_cases k3 : kd = 3
          · subst k3
            have hz1 := z3 rfl
            rw [if_pos rfl]
            have hF' := hF
            unfold CFk at hF'
            rw [if_neg (by decide), if_neg (by decide), if_pos rfl] at hF'
            obtain ⟨x', y', ⟨-, f1, f2⟩, -, f8, -, f9, f3, f4⟩ := hF'
            obtain rfl := n_in (by omega) (by omega) e1 f1
            obtain rfl := n_in (by omega) (by omega) e2 f2
            refine wp_b1 (wp_mono (c_46 (c := fun i => (c (3 + i)).toNatClampNeg) (num := c) x2 (show z < 8 by omega) (by rw [← f3]; exact CCd_RD hC) (fun i hi => ?_) hM) ?_)
            · obtain ⟨u, u1, u2⟩ := f4 i hi
              rw [u2, i_cl (by omega)]
              exact ⟨by omega, rfl⟩
            · intro K hK
              rw [wp_s]
              exact MO_y hK ⟨⟨x1, x2, g3, g4⟩, e1, by rw [hz1]; exact e2, fun _ _ => rfl⟩
          · rw [if_neg (show ¬ nI kd = nI 3 by rw [i_eq (by omega) (by omega)]; exact k3)]
            obtain rfl : kd = 4 := by omega
            obtain rfl := zn (by decide)
            have hF' := hF
            unfold CFk at hF'
            rw [if_neg (by decide), if_neg (by decide), if_neg (by decide)] at hF'
            obtain ⟨x', y', ⟨-, f1, f2⟩, -, f8, -, f9, -, -, f3⟩ := hF'
            obtain rfl := n_in (by omega) (by omega) e1 f1
            obtain rfl := n_in (by omega) (by omega) e2 f2
            obtain ⟨q, q1, q2, q3⟩ := f3 rfl
            have h8 := p2_le x2
            refine wp_b1 (wp_mono (c_48 (q := q) (S := fun i => (c (3 + 2 * i)).toNatClampNeg) (Y := fun i => c (3 + 2 * i + 1)) (num := c) (by omega) (by rw [← q1]; exact CCd_RD hC) (fun J e => by rw [← q1]; exact CCd_3 (CCd_f hC (fun x h1 h2 => e x (by omega) (by omega) (by omega)))) (fun i hi => ?_) hM) ?_)
            · obtain ⟨⟨u, u1, -, u2⟩, -⟩ := q2 i hi
              rw [u2, i_cl (by omega)]
              exact ⟨by omega, rfl, rfl⟩
            · intro K hK
              rw [wp_s]
              exact MO_y hK ⟨⟨x1, x2, g3, g4⟩, e1, e2, q, q1, fun _ _ => rfl⟩
  unfold m_28
  rw [k_43]
  simp only [o_g_t]
  rw [CCd_n hC (show 2 < b - a by omega), e2]
  simp only [o_b1_s]
  by_cases c3 : kd = 3
  · have := y4 c3
    rw [if_pos (show nI kd = nI 3 by rw [c3]), i_sub (by omega)]
    exact rest (y - 1) (by omega) (fun _ => by omega) (fun h => absurd c3 h)
  · rw [if_neg (show ¬ nI kd = nI 3 by rw [i_eq (by omega) (by omega)]; exact c3)]
    exact rest y (by omega) (fun h => absurd h c3) (fun _ => rfl)
