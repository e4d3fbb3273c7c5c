/-! The law's loops that write a shelf's numbers. -/
theorem m_l1 {I J : ai_I} {t r e hi n : Nat} {L : ai_G} {w : List Nat} {vs : List Int32} (ht : ary L t 240) (hr : ary L r 1) (htr : ¬ t = r) (hhn : hi * n < 1000) (he : e + 4 * (hi * n) ≤ 240) (h : MS I t r w vs e J) : wp (lp (fun s => m_122_b1545 (nI n) r t (Gc L) (nI hi) s.1 s.2.1 s.2.2) o_N (nI e, nI 0, J)) (fun q => ∃ ws e', q.1 = nI e' ∧ e' ≤ e + 4 * (hi * n) ∧ ws.length = hi * n ∧ (∀ i, i < ws.length → sml (ws.getD i 0)) ∧ MS I t r w (vs ++ ws) e' q.2) := by
  refine wp_lp (fun i s => s.2.1 = nI i ∧ ∃ ws e', s.1 = nI e' ∧ e' ≤ e + 4 * i ∧ ws.length = i ∧ (∀ i, i < ws.length → sml (ws.getD i 0)) ∧ MS I t r w (vs ++ ws) e' s.2.2) 0 (hi * n) (Nat.zero_le _) (by omega) ⟨rfl, [], e, rfl, Nat.le_refl _, rfl, fun i hi => absurd hi (Nat.not_lt_zero _), by rw [List.append_nil]; exact h⟩ ?_ ?_
  · rintro i ⟨x, y, K⟩ hi' ⟨g1, ws, e', g2, g3, g4, g5, g6⟩
    dsimp only at g1 g2 g3 g4 g6
    subst g1
    subst g2
    unfold m_122_b1545
    dsimp only
    rw [i_mul, if_neg (nI_ge hi' (by omega))]
    refine wp_b2 (wp_mono (m_next hr htr g6) ?_)
    rintro ⟨v, M⟩ ⟨v', v1, v2, v3⟩
    dsimp only at v2 v3 ⊢
    subst v2
    rw [k_rem (by omega) (by decide) (by decide)]
    have hs := sml_sub (a := v' % 41) (b := 20) (by omega) (by decide)
    refine wp_b2 (wp_mono (m_num ht (by omega) hs v3) ?_)
    rintro ⟨x, K⟩ ⟨e2, k1, k2, k3, k4⟩
    dsimp only at k1 k4 ⊢
    rw [i_add, o_b1_s, wp_s, lq_l]
    refine ⟨rfl, ws ++ [nI (v' % 41) - nI 20], e2, k1, by omega, by rw [ap_l]; omega, fun j hj => ?_, by rw [← List.append_assoc]; exact k4⟩
    rw [ap_l] at hj
    by_cases c : j < ws.length
    · rw [gd_1 c]
      exact g5 j c
    · rw [gd_2 (by omega)]
      exact hs
  · rintro ⟨x, y, K⟩ ⟨g1, ws, e', g2, g3, g4, g5, g6⟩
    dsimp only at g1 g2 g3 g4 g6
    subst g1
    unfold m_122_b1545
    dsimp only
    rw [i_mul, if_pos (Int32.le_refl _), wp_s, lq_r]
    exact ⟨ws, e', g2, g3, g4, g5, g6⟩
/-- edge i is fit -/
def EDG (hi : Nat) (ws : List Int32) (i : Nat) : Prop := ∃ a b, ws.getD (2 * i) 0 = nI a ∧ ws.getD (2 * i + 1) 0 = nI b ∧ a ≤ hi ∧ b ≤ hi ∧ ¬ a = b ∧ (i < hi → a = i ∧ b = i + 1)
theorem EDG_1 {hi i : Nat} {ws : List Int32} {x y : Int32} (hl : 2 * i + 1 < ws.length) (h : EDG hi ws i) : EDG hi ((ws ++ [x]) ++ [y]) i := by
  obtain ⟨a, b, h1, h2, h3⟩ := h
  refine ⟨a, b, ?_, ?_, h3⟩
  · rw [gd_1 (by rw [ap_l]; omega), gd_1 (by omega)]
    exact h1
  · rw [gd_1 (by rw [ap_l]; omega), gd_1 (by omega)]
    exact h2
theorem m_l2n {I J : ai_I} {t r e hi i a b : Nat} {L : ai_G} {w : List Nat} {vs ws : List Int32} {Q : (Int32 × Int32 × ai_I) ⊕ (Int32 × ai_I) → Prop} (ht : ary L t 240) (he : e + 8 ≤ 240) (ha : a ≤ hi) (hb : b ≤ hi) (hi5 : hi < 5) (hab : ¬ a = b) (hp : i < hi → a = i ∧ b = i + 1) (hl : ws.length = 2 * i) (hE : ∀ j, j < i → EDG hi ws j) (h : MS I t r w (vs ++ ws) e J) (hQ : ∀ e' M us, e' ≤ e + 8 → us.length = 2 * (i + 1) → (∀ j, j < i + 1 → EDG hi us j) → MS I t r w (vs ++ us) e' M → Q (.inl (nI e', nI (i + 1), M))) : wp (m_122_j1689 t (Gc L) (nI e) (nI i) (nI a) (nI b) J) Q := by
  unfold m_122_j1689
  refine wp_b2 (wp_mono (m_num ht (by omega) (sml_n (d := a) (by omega)) h) ?_)
  rintro ⟨x, K⟩ ⟨e2, k1, k2, k3, k4⟩
  dsimp only at k1 k4 ⊢
  subst k1
  refine wp_b2 (wp_mono (m_num ht (by omega) (sml_n (d := b) (by omega)) k4) ?_)
  rintro ⟨x, M⟩ ⟨e3, m1, m2, m3, m4⟩
  dsimp only at m1 m4 ⊢
  subst m1
  rw [i_add, o_b1_s, wp_s]
  refine hQ e3 M ((ws ++ [nI a]) ++ [nI b]) (by omega) (by rw [ap_l, ap_l]; omega) (fun j hj => ?_) (by rw [← List.append_assoc, ← List.append_assoc]; exact m4)
  by_cases c : j = i
  · subst c
    refine ⟨a, b, ?_, ?_, ha, hb, hab, hp⟩
    · rw [gd_1 (by rw [ap_l]; omega), gd_2 (by omega)]
    · rw [gd_2 (by rw [ap_l]; omega)]
  · exact EDG_1 (by omega) (hE j (by omega))
theorem m_l2 {I J : ai_I} {t r e hi n : Nat} {L : ai_G} {w : List Nat} {vs : List Int32} (ht : ary L t 240) (hr : ary L r 1) (htr : ¬ t = r) (hi1 : 1 ≤ hi) (hi5 : hi < 5) (hn : n < 7) (he : e + 8 * n ≤ 240) (h : MS I t r w vs e J) : wp (lp (fun s => m_122_b1625 (nI n) r t (Gc L) (nI (hi + 1)) s.1 s.2.1 s.2.2) o_N (nI e, nI 0, J)) (fun q => ∃ ws e', q.1 = nI e' ∧ e' ≤ e + 8 * n ∧ ws.length = 2 * n ∧ (∀ i, i < n → EDG hi ws i) ∧ MS I t r w (vs ++ ws) e' q.2) := by
  refine wp_lp (fun i s => s.2.1 = nI i ∧ ∃ ws e', s.1 = nI e' ∧ e' ≤ e + 8 * i ∧ ws.length = 2 * i ∧ (∀ j, j < i → EDG hi ws j) ∧ MS I t r w (vs ++ ws) e' s.2.2) 0 n (Nat.zero_le _) (by omega) ⟨rfl, [], e, rfl, Nat.le_refl _, rfl, fun i hi => absurd hi (Nat.not_lt_zero _), by rw [List.append_nil]; exact h⟩ ?_ ?_
  · rintro i ⟨x, y, K⟩ hi' ⟨g1, ws, e', g2, g3, g4, g5, g6⟩
    dsimp only at g1 g2 g3 g4 g6
    subst g1
    subst g2
    unfold m_122_b1625
    dsimp only
    rw [if_neg (nI_ge hi' (by omega)), i_sub (show 1 ≤ hi + 1 by omega), Nat.add_sub_cancel]
    have fin : ∀ e2 M us, e2 ≤ e' + 8 → us.length = 2 * (i + 1) → (∀ j, j < i + 1 → EDG hi us j) → MS I t r w (vs ++ us) e2 M → lq (fun s : Int32 × Int32 × ai_I => s.2.1 = nI (i + 1) ∧ ∃ ws e', s.1 = nI e' ∧ e' ≤ e + 8 * (i + 1) ∧ ws.length = 2 * (i + 1) ∧ (∀ j, j < i + 1 → EDG hi ws j) ∧ MS I t r w (vs ++ ws) e' s.2.2) (fun q : Int32 × ai_I => ∃ ws e', q.1 = nI e' ∧ e' ≤ e + 8 * n ∧ ws.length = 2 * n ∧ (∀ i, i < n → EDG hi ws i) ∧ MS I t r w (vs ++ ws) e' q.2) (.inl (nI e2, nI (i + 1), M)) := fun e2 M us u1 u2 u3 u4 => ⟨rfl, us, e2, rfl, by omega, u2, u3, u4⟩
    by_cases c : hi ≤ i
    · rw [if_pos (nI_le c (by omega))]
      refine wp_b2 (wp_mono (m_next hr htr g6) ?_)
      rintro ⟨v, M⟩ ⟨v', v1, v2, v3⟩
      dsimp only at v2 v3 ⊢
      subst v2
      rw [show o_nzI (nI (hi + 1)) = true from decide_eq_true (fun h9 => by rw [i_e0 (by omega)] at h9; omega), o_g_t, k_rem (by omega) (by omega) (by omega)]
      have ha := Nat.mod_lt v' (show 0 < hi + 1 by omega)
      generalize v' % (hi + 1) = a at ha
      unfold m_122_j1653
      rw [i_sub (show 1 ≤ hi + 1 by omega), Nat.add_sub_cancel, if_pos (nI_le c (by omega))]
      refine wp_b2 (wp_mono (m_next hr htr v3) ?_)
      rintro ⟨v, K⟩ ⟨u, u1, u2, u3⟩
      dsimp only at u2 u3 ⊢
      subst u2
      rw [show o_nzI (nI hi) = true from decide_eq_true (fun h9 => by rw [i_e0 (by omega)] at h9; omega), o_g_t, show o_nzI (nI (hi + 1)) = true from decide_eq_true (fun h9 => by rw [i_e0 (by omega)] at h9; omega), o_g_t, k_rem (show u < 2147483648 by omega) (show 0 < hi by omega) (by omega)]
      have hb := Nat.mod_lt u (show 0 < hi by omega)
      generalize u % hi = b at hb
      rw [i_add, i_add, k_rem (by omega) (by omega) (by omega)]
      have hc := Nat.mod_lt (a + 1 + b) (show 0 < hi + 1 by omega)
      have hne : ¬ a = (a + 1 + b) % (hi + 1) := by
        by_cases d : a + 1 + b < hi + 1
        · rw [Nat.mod_eq_of_lt d]
          omega
        · rw [Nat.mod_eq_sub_mod (by omega), Nat.mod_eq_of_lt (by omega)]
          omega
      generalize (a + 1 + b) % (hi + 1) = d at hc hne
      exact m_l2n ht (by omega) (by omega) (by omega) hi5 hne (fun h9 => absurd h9 (by omega)) g4 g5 u3 fin
    · rw [if_neg (nI_ge (by omega) (by omega))]
      unfold m_122_j1653
      rw [i_sub (show 1 ≤ hi + 1 by omega), Nat.add_sub_cancel, if_neg (nI_ge (by omega) (by omega)), i_add]
      exact m_l2n ht (by omega) (by omega) (by omega) hi5 (by omega) (fun _ => ⟨rfl, rfl⟩) g4 g5 g6 fin
  · rintro ⟨x, y, K⟩ ⟨g1, ws, e', g2, g3, g4, g5, g6⟩
    dsimp only at g1 g2 g3 g4 g6
    subst g1
    unfold m_122_b1625
    dsimp only
    rw [if_pos (Int32.le_refl _), wp_s, lq_r]
    exact ⟨ws, e', g2, g3, g4, g5, g6⟩
/-- pairs told, sets rising below z -/
def PRS (hi z m : Nat) (ws : List Int32) : Prop := ws.length = 2 * m ∧ (∀ i, i < m → (∃ x, x < z ∧ pc x = hi ∧ ws.getD (2 * i) 0 = nI x) ∧ sml (ws.getD (2 * i + 1) 0)) ∧ ∀ i j, i < j → j < m → ¬ ws.getD (2 * i) 0 = ws.getD (2 * j) 0
theorem PRS_up {hi z m : Nat} {ws : List Int32} (h : PRS hi z m ws) : PRS hi (z + 1) m ws := ⟨h.1, fun i hi' => by
  obtain ⟨⟨x, x1, x2⟩, x3⟩ := h.2.1 i hi'
  exact ⟨⟨x, by omega, x2⟩, x3⟩, h.2.2⟩
theorem PRS_ad {hi z m : Nat} {ws : List Int32} {y : Int32} (hz : z < 256) (h : PRS hi z m ws) (hp : pc z = hi) (hy : sml y) : PRS hi (z + 1) (m + 1) ((ws ++ [nI z]) ++ [y]) := by
  obtain ⟨h1, h2, h3⟩ := h
  have e1 : ∀ j, j < 2 * m → ((ws ++ [nI z]) ++ [y]).getD j 0 = ws.getD j 0 := fun j hj => by rw [gd_1 (by rw [ap_l]; omega), gd_1 (by omega)]
  have e2 : ((ws ++ [nI z]) ++ [y]).getD (2 * m) 0 = nI z := by rw [gd_1 (by rw [ap_l]; omega), gd_2 (by omega)]
  have e3 : ((ws ++ [nI z]) ++ [y]).getD (2 * m + 1) 0 = y := gd_2 (by rw [ap_l]; omega)
  refine ⟨by rw [ap_l, ap_l]; omega, fun i hi' => ?_, fun i j hij hj => ?_⟩
  · by_cases c : i = m
    · subst c
      rw [e2, e3]
      exact ⟨⟨z, by omega, hp, rfl⟩, hy⟩
    · obtain ⟨⟨x, x1, x2, x3⟩, x4⟩ := h2 i (by omega)
      rw [e1 _ (by omega), e1 _ (by omega)]
      exact ⟨⟨x, by omega, x2, x3⟩, x4⟩
  · rw [e1 (2 * i) (by omega)]
    by_cases c : j = m
    · subst c
      obtain ⟨⟨x, x1, x2, x3⟩, -⟩ := h2 i (by omega)
      rw [e2, x3, i_eq (by omega) (by omega)]
      omega
    · rw [e1 (2 * j) (by omega)]
      exact h3 i j hij (by omega)
theorem m_l3n {I J : ai_I} {t r e hi m z : Nat} {L : ai_G} {w : List Nat} {vs ws : List Int32} {Q : (Int32 × Int32 × Int32 × ai_I) ⊕ (Int32 × ai_I) → Prop} (ht : ary L t 240) (hr : ary L r 1) (htr : ¬ t = r) (he : e + 8 ≤ 240) (hz : z < 256) (hm : m < 12) (hzs : z < 64) (hp : pc z = hi) (hP : PRS hi z m ws) (h : MS I t r w (vs ++ ws) e J) (hQ : ∀ e' M us, e' ≤ e + 8 → PRS hi (z + 1) (m + 1) us → MS I t r w (vs ++ us) e' M → Q (.inl (nI e', nI (m + 1), nI (z + 1), M))) : wp (m_122_j1775 r t (Gc L) (nI e) (nI m) (nI z) J) Q := by
  unfold m_122_j1775
  refine wp_b2 (wp_mono (m_num ht (by omega) (sml_n (d := z) (by omega)) h) ?_)
  rintro ⟨x, K⟩ ⟨e2, k1, k2, k3, k4⟩
  dsimp only at k1 k4 ⊢
  subst k1
  refine wp_b2 (wp_mono (m_next hr htr k4) ?_)
  rintro ⟨v, M⟩ ⟨v', v1, v2, v3⟩
  dsimp only at v2 v3 ⊢
  subst v2
  rw [k_rem (by omega) (by decide) (by decide)]
  have hs := sml_sub (a := v' % 30) (b := 15) (by omega) (by decide)
  refine wp_b2 (wp_mono (m_num ht (by omega) hs v3) ?_)
  rintro ⟨x, N⟩ ⟨e3, m1, m2, m3, m4⟩
  dsimp only at m1 m4 ⊢
  subst m1
  rw [i_add, o_b1_s, i_add, o_b1_s, wp_s]
  exact hQ e3 N _ (by omega) (PRS_ad hz hP hp hs) (by rw [← List.append_assoc, ← List.append_assoc]; exact m4)
theorem m_l3 {I J : ai_I} {t r e hi n : Nat} {L : ai_G} {w : List Nat} {vs : List Int32} (ht : ary L t 240) (hr : ary L r 1) (htr : ¬ t = r) (hi9 : hi < 9) (hn : n < 7) (hhn : hi < n) (he : e + 96 ≤ 240) (h : MS I t r w vs e J) : wp (lp (fun s => m_122_b1735 (nI n) r t (Gc L) (nI hi) s.1 s.2.1 s.2.2.1 s.2.2.2) o_N (nI e, nI 0, nI 0, J)) (fun q => ∃ ws m e', q.1 = nI e' ∧ e' ≤ e + 96 ∧ 1 ≤ m ∧ m ≤ 12 ∧ PRS hi (2 ^ n) m ws ∧ MS I t r w (vs ++ ws) e' q.2) := by
  have h64 : 2 ^ n ≤ 64 := Nat.pow_le_pow_right (n := 2) (j := 6) (by decide) (by omega)
  have hsh : nI 1 <<< (nI n &&& 31) = nI (2 ^ n) := by rw [i_shl (by decide) (by omega), Nat.one_mul]
  have hlow := low_lt hhn
  refine wp_lp (fun z s => s.2.2.1 = nI z ∧ ∃ ws m e', s.1 = nI e' ∧ s.2.1 = nI m ∧ e' ≤ e + 8 * m ∧ m ≤ 12 ∧ (1 ≤ m ∨ ∀ j, j < z → ¬ pc j = hi) ∧ PRS hi z m ws ∧ MS I t r w (vs ++ ws) e' s.2.2.2) 0 (2 ^ n) (Nat.zero_le _) (by omega) ⟨rfl, [], 0, e, rfl, rfl, Nat.le_refl _, by decide, Or.inr (fun j hj => absurd hj (Nat.not_lt_zero _)), ⟨rfl, fun i hi => absurd hi (Nat.not_lt_zero _), fun i j _ hi => absurd hi (Nat.not_lt_zero _)⟩, by rw [List.append_nil]; exact h⟩ ?_ ?_
  · rintro z ⟨x, y, u, K⟩ hz ⟨g1, ws, m, e', g2, g3, g4, g5, g6, g7, g8⟩
    dsimp only at g1 g2 g3 g4 g8
    subst g1
    subst g2
    subst g3
    unfold m_122_b1735
    dsimp only
    rw [hsh, if_neg (nI_ge hz (by omega))]
    by_cases c12 : 12 ≤ m
    · rw [if_pos (nI_le c12 (by omega)), wp_s, lq_r]
      refine ⟨ws, m, e', rfl, by omega, by omega, g5, ⟨g7.1, fun i hi' => ?_, g7.2.2⟩, g8⟩
      obtain ⟨⟨x, x1, x2⟩, x3⟩ := g7.2.1 i hi'
      exact ⟨⟨x, by omega, x2⟩, x3⟩
    · rw [if_neg (nI_ge (by omega) (by decide)), s_331 (by omega), o_b1_s]
      have fin : ∀ e2 M us, e2 ≤ e' + 8 → PRS hi (z + 1) (m + 1) us → MS I t r w (vs ++ us) e2 M → lq (fun s : Int32 × Int32 × Int32 × ai_I => s.2.2.1 = nI (z + 1) ∧ ∃ ws m e', s.1 = nI e' ∧ s.2.1 = nI m ∧ e' ≤ e + 8 * m ∧ m ≤ 12 ∧ (1 ≤ m ∨ ∀ j, j < z + 1 → ¬ pc j = hi) ∧ PRS hi (z + 1) m ws ∧ MS I t r w (vs ++ ws) e' s.2.2.2) (fun q : Int32 × ai_I => ∃ ws m e', q.1 = nI e' ∧ e' ≤ e + 96 ∧ 1 ≤ m ∧ m ≤ 12 ∧ PRS hi (2 ^ n) m ws ∧ MS I t r w (vs ++ ws) e' q.2) (.inl (nI e2, nI (m + 1), nI (z + 1), M)) := fun e2 M us u1 u2 u3 => ⟨rfl, us, m + 1, e2, rfl, rfl, by omega, by omega, Or.inl (by omega), u2, u3⟩
      by_cases cp : pc z = hi
      · rw [if_pos (by rw [cp])]
        refine wp_b2 (wp_mono (m_next hr htr g8) ?_)
        rintro ⟨v, M⟩ ⟨v', v1, v2, v3⟩
        dsimp only at v2 v3 ⊢
        subst v2
        rw [k_rem (by omega) (by decide) (by decide), q_0lt (by omega), q_e0 (by omega)]
        by_cases c3 : 0 < v' % 3
        · rw [if_pos c3]
          exact m_l3n ht hr htr (by omega) (by omega) (by omega) (by omega) cp g7 v3 fin
        · rw [if_neg c3]
          by_cases c0 : m = 0
          · rw [if_pos c0]
            exact m_l3n ht hr htr (by omega) (by omega) (by omega) (by omega) cp g7 v3 fin
          · rw [if_neg c0, i_add, o_b1_s, wp_s, lq_l]
            exact ⟨rfl, ws, m, e', rfl, rfl, g4, g5, Or.inl (by omega), PRS_up g7, v3⟩
      · have hpc := pc_le z
        rw [if_neg (fun h9 => cp (by rw [i_eq (by omega) (by omega)] at h9; exact h9)), i_add, o_b1_s, wp_s, lq_l]
        refine ⟨rfl, ws, m, e', rfl, rfl, g4, g5, ?_, PRS_up g7, g8⟩
        rcases g6 with g6 | g6
        · exact Or.inl g6
        · refine Or.inr (fun j hj => ?_)
          by_cases cj : j = z
          · rw [cj]
            exact cp
          · exact g6 j (by omega)
  · rintro ⟨x, y, u, K⟩ ⟨g1, ws, m, e', g2, g3, g4, g5, g6, g7, g8⟩
    dsimp only at g1 g2 g3 g4 g8
    subst g1
    unfold m_122_b1735
    dsimp only
    rw [hsh, if_pos (Int32.le_refl _), wp_s, lq_r]
    refine ⟨ws, m, e', g2, by omega, ?_, g5, g7, g8⟩
    rcases g6 with g6 | g6
    · exact g6
    · exact absurd (pc_low hi hi9) (g6 _ hlow)
