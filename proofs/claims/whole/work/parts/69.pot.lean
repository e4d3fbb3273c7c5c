/-! Potentials: the reference's rounds; the common base on both sides. -/
theorem xor_2 {c i j : Nat} (hi : i < 8) (hj : j < 8) (hij : ¬ i = j) : (c ^^^ 2 ^ i) ^^^ 2 ^ j = c ^^^ (2 ^ i ||| 2 ^ j) := by
  rw [Nat.xor_assoc, or_xor i hi j hj hij]
theorem s_283 {J : ai_I} {t L e d f : Nat} {w : Int32} {p : Nat → Int32} (he : e < 8) (hd : d < 8) (hp : PE J 85 p) (hf : f ≤ 1) : wp (m_283 75 (nI e) (p d + w) J (Rc t) (Gc L)) (fun q => ∃ g s, g ≤ 1 ∧ q.1 = nI g ∧ s = rfs [(e, d, w)] (f, p) ∧ f ||| g = s.1 ∧ PE q.2 85 s.2 ∧ ot J q.2 85) := by
  unfold m_283
  rw [r_75_24, g_85 he, o_g_t, i_cl (by omega), hp e he, o_g_t]
  have er : rfs [(e, d, w)] (f, p) = if p d + w < p e then (1, va_up p e (p d + w)) else (f, p) := rfl
  by_cases c2 : p d + w < p e
  · rw [if_pos c2, o_b1_s, wp_s]
    rw [if_pos c2] at er
    refine ⟨1, _, Nat.le_refl _, rfl, rfl, ?_, ?_, fun q hq => up_ne hq⟩
    · rw [er]
      exact (or01 hf (Nat.le_refl 1)).2.1 rfl
    · rw [er]
      intro j hj
      show va_up J 85 (va_up (J 85) e (p d + w)) 85 j = va_up p e (p d + w) j
      rw [up_eq]
      by_cases e1 : j = e
      · rw [e1, up_eq, up_eq]
      · rw [up_ne e1, up_ne e1]
        exact hp j hj
  · rw [if_neg c2, wp_s]
    rw [if_neg c2] at er
    refine ⟨0, _, Nat.zero_le _, rfl, rfl, ?_, ?_, fun _ _ => rfl⟩
    · rw [er]
      exact (or01 hf (Nat.zero_le 1)).2.2 rfl
    · rw [er]
      exact hp
theorem adds (a b c : Int32) : a + b - c = a + (b - c) := by
  rw [Int32.sub_eq_add_neg, Int32.add_assoc, ← Int32.sub_eq_add_neg]
/-- the second half of a pair -/
theorem s_j116 {J : ai_I} {t L l i j c x f n : Nat} {W p : Nat → Int32} {Q : (Int32 × Int32 × ai_I) ⊕ (Int32 × ai_I) → Prop} (hl : l < 12) (hi : i < 8) (hj : j < 8) (hc : c < 256) (hx : x < 256) (hp : PE J 85 p) (hf : f ≤ 1) (hW : FV J l = W) (hQ : ∀ K s, s = rfs (if W x ≠ NO then [(i, j, W c - W x)] else []) (f, p) → PE K 85 s.2 → ot J K 85 → Q (.inl (nI s.1, nI (j + 1), K))) : wp (m_284_j116 75 (nI l) (nI c) (Rc t) (Gc L) (nI i) (nI j) (nI x) (nI f) J) Q := by
  unfold m_284_j116
  rw [s_199 hl hx, o_b1_s, q_bz, hW, i_add]
  simp only [o_b1_s]
  by_cases c1 : W x ≠ NO
  · rw [if_pos c1] at hQ ⊢
    rw [r_75_24, g_85 hj, o_g_t, s_198 hl hc, o_b1_s, s_198 hl hx, o_b1_s, i_cl (by omega), hp j hj, hW, adds]
    refine wp_b2 (wp_mono (s_283 (t := t) (L := L) (f := f) (w := W c - W x) hi hj hp hf) ?_)
    rintro ⟨y, K⟩ ⟨g, s, g1, g2, g3, g4, g5, g6⟩
    dsimp only at g2 g5 g6
    have hq := hQ K s g3 g5 g6
    have hf2 : f = 0 ∨ f = 1 := by omega
    have hg2 : g = 0 ∨ g = 1 := by omega
    show wp (if y = 0 then _ else _) Q
    rw [g2]
    rcases hf2 with rfl | rfl <;> rcases hg2 with rfl | rfl
    · rw [q_00, q_00, wp_s]
      rw [show s.1 = 0 from g4.symm] at hq
      exact hq
    · rw [q_10, wp_s]
      rw [show s.1 = 1 from g4.symm] at hq
      exact hq
    · rw [q_00, q_10, wp_s]
      rw [show s.1 = 1 from g4.symm] at hq
      exact hq
    · rw [q_10, wp_s]
      rw [show s.1 = 1 from g4.symm] at hq
      exact hq
  · rw [if_neg c1] at hQ ⊢
    rw [wp_s]
    exact hQ J (f, p) rfl hp (fun _ _ => rfl)
theorem s_284 {I : ai_I} {t L k l n c : Nat} {p : Nat → Int32} (hk : k < 4) (hl : l < 4) (hn : n ≤ 8) (hI : I 76 (258 * k) = nI n) (hc2 : c < 256) (hp : PE I 85 p) : wp (m_284 75 (nI k) (nI l) (nI c) I (Rc t) (Gc L)) (fun q => q.1 = nI (rfs (LL (FV I k) (FV I l) n c 64) (0, p)).1 ∧ PE q.2 85 (rfs (LL (FV I k) (FV I l) n c 64) (0, p)).2 ∧ ot I q.2 85) := by
  unfold m_284
  refine wp_s1 (wp_lp (fun i s => ∃ J, s = (nI (rfs (LL (FV I k) (FV I l) n c (8 * i)) (0, p)).1, nI i, J) ∧ PE J 85 (rfs (LL (FV I k) (FV I l) n c (8 * i)) (0, p)).2 ∧ ot I J 85) 0 n (Nat.zero_le _) (by omega) ⟨I, rfl, hp, fun _ _ => rfl⟩ ?_ ?_)
  · rintro i _ hi ⟨J, rfl, hP, hJ⟩
    have hIJ : J 76 (258 * k) = nI n := by rw [hJ 76 (by decide)]; exact hI
    simp (disch := omega) only [if_pos, if_neg, o_b1_s, o_b2_s, o_b3_s, o_b4_s, o_s1_s, o_s2_l, o_s2_r, o_g_t, i_add, i_mul, i_sub, i_and, i_or, i_xor, i_sd, i_shl, Nat.one_mul, i_eq, i_lt, i_le, i_n0, i_0le, i_e0, i_0lt, i_le0, i_cl, bz_0, wp_s, lq_l, lq_r, if_true, if_false, ite_not, true_and, and_true, m_284_b6, s_195, hIJ]
    refine wp_s1 (wp_lp (fun j s => ∃ J, s = (nI (rfs (LL (FV I k) (FV I l) n c (8 * i + j)) (0, p)).1, nI j, J) ∧ PE J 85 (rfs (LL (FV I k) (FV I l) n c (8 * i + j)) (0, p)).2 ∧ ot I J 85) 0 n (Nat.zero_le _) (by omega) ⟨J, rfl, hP, hJ⟩ ?_ ?_)
    · rintro j _ hj ⟨J, rfl, hP, hJ⟩
      have hIJ : J 76 (258 * k) = nI n := by rw [hJ 76 (by decide)]; exact hI
      have hFk : FV J k = FV I k := by
        unfold FV
        rw [hJ 76 (by decide)]
      have hFl : FV J l = FV I l := by
        unfold FV
        rw [hJ 76 (by decide)]
      have hx : c ^^^ (2 ^ i ||| 2 ^ j) < 256 := bit_xor_lt hc2 (bit_or_lt (p2_lt (by omega)) (p2_lt (by omega)))
      have hf := rfs_01 (LL (FV I k) (FV I l) n c (8 * i + j)) (0, p) (Nat.zero_le _)
      have est : LL (FV I k) (FV I l) n c (8 * i + (j + 1)) = LL (FV I k) (FV I l) n c (8 * i + j) ++ csq (FV I k) (FV I l) n c (8 * i + j) := rfl
      rw [est, rfs_app, csq_at (show j < 8 by omega)]
      simp (disch := omega) only [if_pos, if_neg, o_b1_s, o_b2_s, o_b3_s, o_b4_s, o_s1_s, o_s2_l, o_s2_r, o_g_t, i_add, i_mul, i_sub, i_and, i_or, i_xor, i_sd, i_shl, Nat.one_mul, i_eq, i_lt, i_le, i_n0, i_0le, i_e0, i_0lt, i_le0, i_cl, bz_0, wp_s, lq_l, lq_r, if_true, if_false, ite_not, true_and, and_true, m_284_b19, s_195, hIJ, s_192]
      by_cases c1 : c.testBit i = true
      · rw [if_pos c1]
        by_cases c2 : c.testBit j = true
        · rw [if_pos c2, if_neg (fun h9 => by rw [h9.2.2.2] at c2; cases c2)]
          simp (disch := omega) only [o_b1_s, o_b2_s, o_b3_s, o_b4_s, o_s1_s, o_s2_l, o_s2_r, o_g_t, i_add, i_mul, i_sub, i_and, i_or, i_xor, i_sd, i_shl, Nat.one_mul, i_eq, i_lt, i_le, i_n0, i_0le, i_e0, i_0lt, i_le0, i_cl, bz_0, wp_s, lq_l, lq_r, if_true, if_false, ite_not, true_and, and_true]
          exact ⟨J, rfl, hP, hJ⟩
        · have hij : ¬ i = j := fun h9 => by rw [h9] at c1; exact c2 c1
          rw [if_neg c2, if_pos ⟨hi, hj, c1, not_tb c2⟩, rfs_app, xor_2 (by omega) (by omega) hij, s_199 (by omega) hx, o_b1_s]
          simp (disch := omega) only [o_b1_s, o_b2_s, o_b3_s, o_b4_s, o_s1_s, o_s2_l, o_s2_r, o_g_t, i_add, i_mul, i_sub, i_and, i_or, i_xor, i_sd, i_shl, Nat.one_mul, i_eq, i_lt, i_le, i_n0, i_0le, i_e0, i_0lt, i_le0, i_cl, bz_0, wp_s, lq_l, lq_r, if_true, if_false, ite_not, true_and, and_true]
          rw [hFk]
          have e3 : (rfs (LL (FV I k) (FV I l) n c (8 * i + j)) (0, p)) = ((rfs (LL (FV I k) (FV I l) n c (8 * i + j)) (0, p)).1, (rfs (LL (FV I k) (FV I l) n c (8 * i + j)) (0, p)).2) := rfl
          by_cases c3 : FV I k (c ^^^ (2 ^ i ||| 2 ^ j)) = NO
          · rw [if_pos c3, if_pos c3]
            refine s_j116 (n := n) (by omega) (by omega) (by omega) hc2 hx hP hf hFl (fun K s h1 h2 h3 => ?_)
            rw [← e3] at h1
            simp only [ne_eq, ite_not] at h1
            rw [show rfs [] (rfs (LL (FV I k) (FV I l) n c (8 * i + j)) (0, p)) = rfs (LL (FV I k) (FV I l) n c (8 * i + j)) (0, p) from rfl, ← h1]
            exact ⟨K, rfl, h2, fun q hq => (h3 q hq).trans (hJ q hq)⟩
          · rw [if_neg c3, if_neg c3, r_75_24, g_85 (by omega), o_g_t, s_198 (by omega) hc2, o_b1_s, s_198 (by omega) hx, o_b1_s, hP i (by omega), hFk, adds]
            refine wp_b2 (wp_mono (s_283 (t := t) (L := L) (f := (rfs (LL (FV I k) (FV I l) n c (8 * i + j)) (0, p)).1) (w := FV I k c - FV I k (c ^^^ (2 ^ i ||| 2 ^ j))) (show j < 8 by omega) (show i < 8 by omega) hP hf) ?_)
            rintro ⟨y, K⟩ ⟨g, s, g1, g2, g3, g4, g5, g6⟩
            dsimp only at g2 g5 g6
            rw [← e3] at g3
            have hs1 : s.1 ≤ 1 := by rw [← g4]; exact (or01 hf g1).1
            have fr : ot I K 85 := fun q hq => (g6 q hq).trans (hJ q hq)
            have hFlK : FV K l = FV I l := by
              unfold FV
              rw [fr 76 (by decide)]
            have e4 : s = (s.1, s.2) := rfl
            have fin : wp (m_284_j116 75 (nI l) (nI c) (Rc t) (Gc L) (nI i) (nI j) (nI (c ^^^ (2 ^ i ||| 2 ^ j))) (nI s.1) K) (lq (fun s => ∃ J, s = (nI (rfs (if FV I l (c ^^^ (2 ^ i ||| 2 ^ j)) = NO then [] else [(i, j, FV I l c - FV I l (c ^^^ (2 ^ i ||| 2 ^ j)))]) (rfs [(j, i, FV I k c - FV I k (c ^^^ (2 ^ i ||| 2 ^ j)))] (rfs (LL (FV I k) (FV I l) n c (8 * i + j)) (0, p)))).1, nI (j + 1), J) ∧ PE J 85 (rfs (if FV I l (c ^^^ (2 ^ i ||| 2 ^ j)) = NO then [] else [(i, j, FV I l c - FV I l (c ^^^ (2 ^ i ||| 2 ^ j)))]) (rfs [(j, i, FV I k c - FV I k (c ^^^ (2 ^ i ||| 2 ^ j)))] (rfs (LL (FV I k) (FV I l) n c (8 * i + j)) (0, p)))).2 ∧ ot I J 85) (fun a => wp (m_284_x19_175 (nI i) a.1 a.2) (lq (fun s => ∃ J, s = (nI (rfs (LL (FV I k) (FV I l) n c (8 * (i + 1))) (0, p)).1, nI (i + 1), J) ∧ PE J 85 (rfs (LL (FV I k) (FV I l) n c (8 * (i + 1))) (0, p)).2 ∧ ot I J 85) (fun a => wp (m_284_x6_181 a.1 a.2) (fun q => q.1 = nI (rfs (LL (FV I k) (FV I l) n c 64) (0, p)).1 ∧ PE q.2 85 (rfs (LL (FV I k) (FV I l) n c 64) (0, p)).2 ∧ ot I q.2 85))))) := by
              refine s_j116 (n := n) (by omega) (by omega) (by omega) hc2 hx g5 hs1 hFlK (fun M s' h1 h2 h3 => ?_)
              rw [← e4, g3] at h1
              simp only [ne_eq, ite_not] at h1
              rw [← h1]
              exact ⟨M, rfl, h2, fun q hq => (h3 q hq).trans (fr q hq)⟩
            have hg2 : g = 0 ∨ g = 1 := by omega
            have hf2 : (rfs (LL (FV I k) (FV I l) n c (8 * i + j)) (0, p)).1 = 0 ∨ (rfs (LL (FV I k) (FV I l) n c (8 * i + j)) (0, p)).1 = 1 := by omega
            unfold m_284_j109 m_284_j114
            show wp (if y = 0 then _ else _) _
            rw [g2]
            rcases hg2 with rfl | rfl
            · rw [q_00]
              rcases hf2 with hf3 | hf3
              · rw [show s.1 = 0 by rw [← g4, hf3]; rfl] at fin
                rw [if_pos hf3]
                exact fin
              · rw [show s.1 = 1 by rw [← g4, hf3]; rfl] at fin
                rw [if_neg (show ¬ (rfs (LL (FV I k) (FV I l) n c (8 * i + j)) (0, p)).1 = 0 by omega)]
                exact fin
            · rw [show s.1 = 1 by rw [← g4]; exact (or01 hf (Nat.le_refl 1)).2.1 rfl] at fin
              rw [q_10]
              exact fin
      · rw [if_neg c1, if_neg (fun h9 => c1 h9.2.2.1)]
        simp (disch := omega) only [o_b1_s, o_b2_s, o_b3_s, o_b4_s, o_s1_s, o_s2_l, o_s2_r, o_g_t, i_add, i_mul, i_sub, i_and, i_or, i_xor, i_sd, i_shl, Nat.one_mul, i_eq, i_lt, i_le, i_n0, i_0le, i_e0, i_0lt, i_le0, i_cl, bz_0, wp_s, lq_l, lq_r, if_true, if_false, ite_not, true_and, and_true]
        exact ⟨J, rfl, hP, hJ⟩
    · rintro _ ⟨J, rfl, hP, hJ⟩
      have hIJ : J 76 (258 * k) = nI n := by rw [hJ 76 (by decide)]; exact hI
      simp (disch := omega) only [if_pos, if_neg, o_b1_s, o_b2_s, o_b3_s, o_b4_s, o_s1_s, o_s2_l, o_s2_r, o_g_t, i_add, i_mul, i_sub, i_and, i_or, i_xor, i_sd, i_shl, Nat.one_mul, i_eq, i_lt, i_le, i_n0, i_0le, i_e0, i_0lt, i_le0, i_cl, bz_0, wp_s, lq_l, lq_r, if_true, if_false, ite_not, true_and, and_true, m_284_b19, s_195, hIJ, m_284_x19_175]
      rw [LL_row hn]
      exact ⟨J, rfl, hP, hJ⟩
  · rintro _ ⟨J, rfl, hP, hJ⟩
    have hIJ : J 76 (258 * k) = nI n := by rw [hJ 76 (by decide)]; exact hI
    simp (disch := omega) only [if_pos, if_neg, o_b1_s, o_b2_s, o_b3_s, o_b4_s, o_s1_s, o_s2_l, o_s2_r, o_g_t, i_add, i_mul, i_sub, i_and, i_or, i_xor, i_sd, i_shl, Nat.one_mul, i_eq, i_lt, i_le, i_n0, i_0le, i_e0, i_0lt, i_le0, i_cl, bz_0, wp_s, lq_l, lq_r, if_true, if_false, ite_not, true_and, and_true, m_284_b6, s_195, hIJ, m_284_x6_181]
    rw [bz_01 (rfs_01 _ _ (Nat.zero_le _)), o_g_t, wp_s, LL_end hn]
    exact ⟨rfl, hP, hJ⟩
/-- in both -/
def pbb (V W : Nat → Int32) (x : Nat) : Bool := decide (x < 256) && (decide (V x ≠ NO) && decide (W x ≠ NO))
def Sbb (V W : Nat → Int32) (x : Nat) : Int32 := if pbb V W x = true then V x + W x else nI 0
theorem pbb_t {V W : Nat → Int32} {x : Nat} (hx : x < 256) (h1 : ¬ V x = NO) (h2 : ¬ W x = NO) : pbb V W x = true := by
  unfold pbb
  rw [decide_eq_true hx, decide_eq_true h1, decide_eq_true h2]
  rfl
theorem pbb_e {V W : Nat → Int32} {x : Nat} (h : pbb V W x = true) : x < 256 ∧ ¬ V x = NO ∧ ¬ W x = NO := by
  unfold pbb at h
  rw [Bool.and_eq_true, Bool.and_eq_true] at h
  exact ⟨of_decide_eq_true h.1, of_decide_eq_true h.2.1, of_decide_eq_true h.2.2⟩
theorem pbb_f {V W : Nat → Int32} {x : Nat} (h : V x = NO ∨ W x = NO) : ¬ pbb V W x = true := fun h9 => by
  obtain ⟨-, h1, h2⟩ := pbb_e h9
  rcases h with h | h
  · exact h1 h
  · exact h2 h
theorem Sbb_gt {V W : Nat → Int32} {n r n2 r2 : Nat} (hW : WF n r V) (hW2 : WF n2 r2 W) : ∀ x, ¬ Sbb V W x ≤ NO := fun x h => by
  unfold Sbb at h
  by_cases c : pbb V W x = true
  · obtain ⟨hx, h1, h2⟩ := pbb_e c
    obtain ⟨-, -, a1, a2⟩ := hW.2.2.2.2.1 x hx h1
    obtain ⟨-, -, b1, b2⟩ := hW2.2.2.2.2.1 x hx h2
    rw [if_pos c, Int32.le_iff_toInt_le] at h
    rw [Int32.le_iff_toInt_le] at a1 a2 b1 b2
    rw [show (-1000000 : Int32).toInt = -1000000 from by decide] at a1 b1
    rw [show (1000000 : Int32).toInt = 1000000 from by decide] at a2 b2
    rw [show NO.toInt = -2147483648 from by decide, Int32.toInt_add] at h
    unfold Int.bmod at h
    dsimp only at h
    split at h <;> omega
  · rw [if_neg c] at h
    exact absurd h (by decide)
/-- both find the same -/
def fbo (V W : Nat → Int32) : Nat × Nat × Int32 := fd (fco (pbb V W) (Sbb V W)) (List.range 256) (0, 0, NO)
def fbr (V W : Nat → Int32) (k : Nat) : Nat × Option Nat := fd (fre (pbb V W) (Sbb V W)) (List.range k) (0, none)
theorem fbr_ok (V W : Nat → Int32) : ∀ k, (fbr V W k).1 = fln (pbb V W) k ∧ ∀ j, (fbr V W k).2 = some j → pbb V W j = true
  | 0 => ⟨rfl, fun j h => by cases h⟩
  | k + 1 => by
    obtain ⟨h1, h2⟩ := fbr_ok V W k
    have e : fbr V W (k + 1) = fre (pbb V W) (Sbb V W) k (fbr V W k) := by
      unfold fbr
      rw [List.range_succ, fd_append]
      rfl
    rw [e]
    unfold fre
    by_cases c : pbb V W k = true
    · rw [if_pos c, fq_t c]
      refine ⟨by show (fbr V W k).1 + 1 = _; rw [h1], fun j hj => ?_⟩
      cases ho : (fbr V W k).2 with
      | none =>
        rw [ho] at hj
        cases hj
        exact c
      | some i =>
        rw [ho] at hj
        change (if Sbb V W k ≤ Sbb V W i then some i else some k) = some j at hj
        by_cases c2 : Sbb V W k ≤ Sbb V W i
        · rw [if_pos c2] at hj
          cases hj
          exact h2 _ ho
        · rw [if_neg c2] at hj
          cases hj
          exact c
    · rw [if_neg c, fq_f (by cases h : pbb V W k; rfl; exact absurd h c)]
      exact ⟨h1, h2⟩
theorem fbo_R {V W : Nat → Int32} {n r n2 r2 : Nat} (hW : WF n r V) (hW2 : WF n2 r2 W) : co_R (Sbb V W) (fbo V W) (fbr V W 256) := co_fd (fun x hx => List.mem_range.1 hx) (Sbb_gt hW hW2)
theorem c_23 {I : ai_I} {t L v w n r n2 r2 : Nat} {V W : Nat → Int32} (hv : v ∈ VC) (hw : w ∈ VC) (hW : WF n r V) (hW2 : WF n2 r2 W) (h : CS I v n r V) (h2 : CS I w n2 r2 W) : ∃ J, m_23 61 v w I (Rc t) (Gc L) = some J ∧ CO I J (fbo V W) := by
  have hl := BL_len hW
  have hvv := vc_51 v hv
  have hww := vc_51 w hw
  obtain ⟨J0, j1, j2⟩ := c_25 I
  have key : wp (m_23 61 v w I (Rc t) (Gc L)) (fun J => CO I J (fbo V W)) := by
    unfold m_23
    rw [j1, o_b1_s]
    refine wp_s1 (wp_lpB V (fun p (J : ai_I) => (nI p, J)) (fun k J => CO I J (fd (fco (pbb V W) (Sbb V W)) (List.range k) (0, 0, NO))) (x0 := J0) hl j2 ?_ ?_ ?_)
    · rintro k J hk hV hJ
      rw [List.range_succ, fd_append]
      show CO I J (fco (pbb V W) (Sbb V W) k _)
      unfold fco
      rw [if_neg (pbb_f (Or.inl hV))]
      exact hJ
    · rintro p J hp hJ
      have hb := BL_at hp
      have hC : CS J v n r V := CS_cong (fun _ _ => rfl) (hJ.1 _ (by omega)) (hJ.1 _ (by omega)) (hJ.1 _ (by omega)) (hJ.1 _ (by omega)) h
      have hC2 : CS J w n2 r2 W := CS_cong (fun _ _ => rfl) (hJ.1 _ (by omega)) (hJ.1 _ (by omega)) (hJ.1 _ (by omega)) (hJ.1 _ (by omega)) h2
      have hN : ∀ K, CO I K (fco (pbb V W) (Sbb V W) ((BL V).getD p 0) (fd (fco (pbb V W) (Sbb V W)) (List.range ((BL V).getD p 0)) (0, 0, NO))) → CO I K (fd (fco (pbb V W) (Sbb V W)) (List.range ((BL V).getD p 0 + 1)) (0, 0, NO)) := fun K hK => by
        rw [List.range_succ, fd_append]
        exact hK
      simp (disch := omega) only [if_pos, if_neg, o_b1_s, o_b2_s, o_b3_s, o_b4_s, o_s1_s, o_s2_l, o_s2_r, o_g_t, i_add, i_mul, i_sub, i_and, i_or, i_xor, i_sd, i_shl, Nat.one_mul, i_eq, i_lt, i_le, i_n0, i_0le, i_e0, i_0lt, i_le0, i_cl, bz_0, wp_s, lq_l, lq_r, if_true, if_false, ite_not, true_and, and_true, m_23_b6, v_kd hv, v_kd hw, hC.2.2.1, v_rb hv, v_gb hv, hC.2.2.2.2.2, c_122 hw hW2 hC2]
      split
      · rename_i c
        simp (disch := omega) only [o_b1_s, o_b2_s, o_b3_s, o_b4_s, o_s1_s, o_s2_l, o_s2_r, o_g_t, i_add, i_mul, i_sub, i_and, i_or, i_xor, i_sd, i_shl, Nat.one_mul, i_eq, i_lt, i_le, i_n0, i_0le, i_e0, i_0lt, i_le0, i_cl, bz_0, wp_s, lq_l, lq_r, if_true, if_false, ite_not, true_and, and_true]
        refine ⟨J, rfl, hN J ?_⟩
        unfold fco
        rw [if_neg (pbb_f (Or.inr c))]
        exact hJ
      · rename_i c
        have hpb := pbb_t hb.1 hb.2 c
        have hS : Sbb V W ((BL V).getD p 0) = V ((BL V).getD p 0) + W ((BL V).getD p 0) := if_pos hpb
        obtain ⟨K, k1, k2⟩ := c_26 ((BL V).getD p 0) (Sbb V W ((BL V).getD p 0)) hJ
        simp (disch := omega) only [o_b1_s, o_b2_s, o_b3_s, o_b4_s, o_s1_s, o_s2_l, o_s2_r, o_g_t, i_add, i_mul, i_sub, i_and, i_or, i_xor, i_sd, i_shl, Nat.one_mul, i_eq, i_lt, i_le, i_n0, i_0le, i_e0, i_0lt, i_le0, i_cl, bz_0, wp_s, lq_l, lq_r, if_true, if_false, ite_not, true_and, and_true, v_rv hv, v_rv hw, v_gv hv, v_gv hw, hC.2.2.2.1, hC2.2.2.2.1]
        rw [hS] at k1
        rw [k1, o_b1_s]
        simp (disch := omega) only [o_b1_s, o_b2_s, o_b3_s, o_b4_s, o_s1_s, o_s2_l, o_s2_r, o_g_t, i_add, i_mul, i_sub, i_and, i_or, i_xor, i_sd, i_shl, Nat.one_mul, i_eq, i_lt, i_le, i_n0, i_0le, i_e0, i_0lt, i_le0, i_cl, bz_0, wp_s, lq_l, lq_r, if_true, if_false, ite_not, true_and, and_true]
        refine ⟨K, rfl, hN K ?_⟩
        unfold fco
        rw [if_pos hpb]
        exact k2
    · rintro J hJ
      have hC : CS J v n r V := CS_cong (fun _ _ => rfl) (hJ.1 _ (by omega)) (hJ.1 _ (by omega)) (hJ.1 _ (by omega)) (hJ.1 _ (by omega)) h
      simp (disch := omega) only [if_pos, if_neg, o_b1_s, o_b2_s, o_b3_s, o_b4_s, o_s1_s, o_s2_l, o_s2_r, o_g_t, i_add, i_mul, i_sub, i_and, i_or, i_xor, i_sd, i_shl, Nat.one_mul, i_eq, i_lt, i_le, i_n0, i_0le, i_e0, i_0lt, i_le0, i_cl, bz_0, wp_s, lq_l, lq_r, if_true, if_false, ite_not, true_and, and_true, m_23_b6, v_kd hv, hC.2.2.1, m_23_x6_58]
      exact hJ
  obtain ⟨J, h3, h4⟩ := key
  exact ⟨J, h3, h4⟩
theorem s_281 {I : ai_I} {t L k l x : Nat} (hk : k < 4) (hl : l < 4) (hx : x < 256) : m_281 75 (nI k) (nI l) (nI x) I (Rc t) (Gc L) = some (bz (pbb (FV I k) (FV I l) x = true)) := by
  unfold m_281
  rw [s_199 (by omega) hx, s_199 (by omega) hx, o_b1_s, o_b1_s, q_bz, q_bz]
  by_cases c1 : FV I k x ≠ NO
  · rw [if_pos c1]
    by_cases c2 : FV I l x ≠ NO
    · rw [if_pos c2, bz_t (pbb_t hx c1 c2)]
    · rw [if_neg c2, bz_f (pbb_f (Or.inr (Decidable.of_not_not c2)))]
  · rw [if_neg c1, bz_f (pbb_f (Or.inl (Decidable.of_not_not c1)))]
theorem s_282 {I : ai_I} {t L k l : Nat} (hk : k < 4) (hl : l < 4) : m_282 75 (nI k) (nI l) I (Rc t) (Gc L) = some (bst (fbr (FV I k) (FV I l) 256).2) := by
  have key : wp (m_282 75 (nI k) (nI l) I (Rc t) (Gc L)) (fun x => x = bst (fbr (FV I k) (FV I l) 256).2) := by
    unfold m_282
    refine wp_s1 (wp_lp (fun i q => q = (bst (fbr (FV I k) (FV I l) i).2, nI i)) 0 256 (Nat.zero_le _) (by omega) rfl ?_ ?_)
    · rintro i _ hi rfl
      have e : fbr (FV I k) (FV I l) (i + 1) = fre (pbb (FV I k) (FV I l)) (Sbb (FV I k) (FV I l)) i (fbr (FV I k) (FV I l) i) := by
        unfold fbr
        rw [List.range_succ, fd_append]
        rfl
      have hok := (fbr_ok (FV I k) (FV I l) i).2
      rw [e]
      simp (disch := omega) only [if_pos, if_neg, o_b1_s, o_b2_s, o_b3_s, o_b4_s, o_s1_s, o_s2_l, o_s2_r, o_g_t, i_add, i_mul, i_sub, i_and, i_or, i_xor, i_sd, i_shl, Nat.one_mul, i_eq, i_lt, i_le, i_n0, i_0le, i_e0, i_0lt, i_le0, i_cl, bz_0, wp_s, lq_l, lq_r, if_true, if_false, ite_not, true_and, and_true, m_282_b6, s_281, s_198]
      by_cases c : pbb (FV I k) (FV I l) i = true
      · have hSi : Sbb (FV I k) (FV I l) i = FV I k i + FV I l i := if_pos c
        rw [if_pos c]
        unfold fre
        rw [if_pos c]
        cases ho : (fbr (FV I k) (FV I l) i).2 with
        | none =>
          rw [if_pos (show bst none < 0 by decide)]
          simp (disch := omega) only [o_b1_s, o_b2_s, o_b3_s, o_b4_s, o_s1_s, o_s2_l, o_s2_r, o_g_t, i_add, i_mul, i_sub, i_and, i_or, i_xor, i_sd, i_shl, Nat.one_mul, i_eq, i_lt, i_le, i_n0, i_0le, i_e0, i_0lt, i_le0, i_cl, bz_0, wp_s, lq_l, lq_r, if_true, if_false, ite_not, true_and, and_true]
          rfl
        | some j =>
          have hj := hok j ho
          have hj2 := (pbb_e hj).1
          have hSj : Sbb (FV I k) (FV I l) j = FV I k j + FV I l j := if_pos hj
          rw [if_neg (show ¬ bst (some j) < 0 from nI_pos (by omega)), show bst (some j) = nI j from rfl, s_198 (by omega) hj2, s_198 (by omega) hj2, o_b1_s, o_b1_s]
          show wp _ (lq (fun s => s = (bst (if Sbb (FV I k) (FV I l) i ≤ Sbb (FV I k) (FV I l) j then some j else some i), nI (i + 1))) _)
          rw [hSi, hSj]
          split
          · simp (disch := omega) only [o_b1_s, o_b2_s, o_b3_s, o_b4_s, o_s1_s, o_s2_l, o_s2_r, o_g_t, i_add, i_mul, i_sub, i_and, i_or, i_xor, i_sd, i_shl, Nat.one_mul, i_eq, i_lt, i_le, i_n0, i_0le, i_e0, i_0lt, i_le0, i_cl, bz_0, wp_s, lq_l, lq_r, if_true, if_false, ite_not, true_and, and_true]
            rfl
          · simp (disch := omega) only [o_b1_s, o_b2_s, o_b3_s, o_b4_s, o_s1_s, o_s2_l, o_s2_r, o_g_t, i_add, i_mul, i_sub, i_and, i_or, i_xor, i_sd, i_shl, Nat.one_mul, i_eq, i_lt, i_le, i_n0, i_0le, i_e0, i_0lt, i_le0, i_cl, bz_0, wp_s, lq_l, lq_r, if_true, if_false, ite_not, true_and, and_true]
            rfl
      · rw [if_neg c]
        unfold fre
        rw [if_neg c]
        simp (disch := omega) only [o_b1_s, o_b2_s, o_b3_s, o_b4_s, o_s1_s, o_s2_l, o_s2_r, o_g_t, i_add, i_mul, i_sub, i_and, i_or, i_xor, i_sd, i_shl, Nat.one_mul, i_eq, i_lt, i_le, i_n0, i_0le, i_e0, i_0lt, i_le0, i_cl, bz_0, wp_s, lq_l, lq_r, if_true, if_false, ite_not, true_and, and_true]
    · rintro _ rfl
      simp (disch := omega) only [if_pos, if_neg, o_b1_s, o_b2_s, o_b3_s, o_b4_s, o_s1_s, o_s2_l, o_s2_r, o_g_t, i_add, i_mul, i_sub, i_and, i_or, i_xor, i_sd, i_shl, Nat.one_mul, i_eq, i_lt, i_le, i_n0, i_0le, i_e0, i_0lt, i_le0, i_cl, bz_0, wp_s, lq_l, lq_r, if_true, if_false, ite_not, true_and, and_true, m_282_b6, m_282_x6_69]
  obtain ⟨x, hx, rfl⟩ := key
  exact hx
theorem s_285 {I : ai_I} {t L k l n r n2 r2 : Nat} (hk : k < 4) (hl : l < 4) (hn : n ≤ 8) (hI : I 76 (258 * k) = nI n) : wp (m_285 75 (nI k) (nI l) I (Rc t) (Gc L)) (fun q => ((fbr (FV I k) (FV I l) 256).2 = none → q = (nI 0, I)) ∧ ∀ c, (fbr (FV I k) (FV I l) 256).2 = some c → ot I q.2 85 ∧ ((q.1 = nI 1 ∧ ∃ j, j ≤ 8 ∧ Fk (LL (FV I k) (FV I l) n c 64) j = 0 ∧ (∀ i, i < j → ¬ Fk (LL (FV I k) (FV I l) n c 64) i = 0) ∧ PE q.2 85 (Pk (LL (FV I k) (FV I l) n c 64) j)) ∨ (q.1 = nI 0 ∧ ∀ i, i ≤ 8 → ¬ Fk (LL (FV I k) (FV I l) n c 64) i = 0))) := by
  unfold m_285
  rw [s_282 hk hl, o_b1_s]
  cases ho : (fbr (FV I k) (FV I l) 256).2 with
  | none =>
    rw [if_neg (show ¬ 0 ≤ bst none by decide), wp_s]
    exact ⟨fun _ => rfl, fun c h => by cases h⟩
  | some c =>
    have hc2 := (pbb_e ((fbr_ok (FV I k) (FV I l) 256).2 c ho)).1
    have hf : ∀ J : ai_I, ot I J 85 → FV J k = FV I k ∧ FV J l = FV I l := fun J hJ => ⟨by unfold FV; rw [hJ 76 (by decide)], by unfold FV; rw [hJ 76 (by decide)]⟩
    rw [if_pos (show 0 ≤ bst (some c) from nI_pos' (by omega)), show bst (some c) = nI c from rfl]
    have goal2 : wp (o_s1 (lp (fun s => m_285_b16 75 (Rc t) (Gc L) s.1 s.2) o_N (nI 0, I)) fun t_1 => m_285_x16_37 75 (nI k) (nI l) (Rc t) (Gc L) (nI c) t_1) (fun q => ot I q.2 85 ∧ ((q.1 = nI 1 ∧ ∃ j, j ≤ 8 ∧ Fk (LL (FV I k) (FV I l) n c 64) j = 0 ∧ (∀ i, i < j → ¬ Fk (LL (FV I k) (FV I l) n c 64) i = 0) ∧ PE q.2 85 (Pk (LL (FV I k) (FV I l) n c 64) j)) ∨ (q.1 = nI 0 ∧ ∀ i, i ≤ 8 → ¬ Fk (LL (FV I k) (FV I l) n c 64) i = 0))) := by
      refine wp_s1 (wp_lp (fun i q => ∃ J, q = (nI i, J) ∧ ot I J 85 ∧ ∀ e, e < i → J 85 e = nI 0) 0 8 (Nat.zero_le _) (by omega) ⟨I, rfl, fun _ _ => rfl, fun e he => absurd he (Nat.not_lt_zero _)⟩ ?_ ?_)
      · rintro i _ hi ⟨J, rfl, hJ, hz⟩
        simp (disch := omega) only [if_pos, if_neg, o_b1_s, o_b2_s, o_b3_s, o_b4_s, o_s1_s, o_s2_l, o_s2_r, o_g_t, i_add, i_mul, i_sub, i_and, i_or, i_xor, i_sd, i_shl, Nat.one_mul, i_eq, i_lt, i_le, i_n0, i_0le, i_e0, i_0lt, i_le0, i_cl, bz_0, wp_s, lq_l, lq_r, if_true, if_false, ite_not, true_and, and_true, m_285_b16, r_75_24, g_85]
        refine ⟨_, rfl, fun q hq => by rw [up_ne hq]; exact hJ q hq, fun e he => ?_⟩
        rw [up_eq]
        by_cases e1 : e = i
        · rw [e1, up_eq]
        · rw [up_ne e1]
          exact hz e (by omega)
      · rintro _ ⟨J, rfl, hJ, hz⟩
        simp (disch := omega) only [if_pos, if_neg, o_b1_s, o_b2_s, o_b3_s, o_b4_s, o_s1_s, o_s2_l, o_s2_r, o_g_t, i_add, i_mul, i_sub, i_and, i_or, i_xor, i_sd, i_shl, Nat.one_mul, i_eq, i_lt, i_le, i_n0, i_0le, i_e0, i_0lt, i_le0, i_cl, bz_0, wp_s, lq_l, lq_r, if_true, if_false, ite_not, true_and, and_true, m_285_b16, m_285_x16_37]
        refine wp_s1 (wp_lp (fun i q => ∃ J m, q = (nI m, nI i, J) ∧ ot I J 85 ∧ ((m = 1 ∧ PE J 85 (Pk (LL (FV I k) (FV I l) n c 64) i) ∧ ∀ a, a < i → ¬ Fk (LL (FV I k) (FV I l) n c 64) a = 0) ∨ (m = 0 ∧ ∃ j, j + 1 = i ∧ Fk (LL (FV I k) (FV I l) n c 64) j = 0 ∧ (∀ a, a < j → ¬ Fk (LL (FV I k) (FV I l) n c 64) a = 0) ∧ PE J 85 (Pk (LL (FV I k) (FV I l) n c 64) j)))) 0 9 (Nat.zero_le _) (by omega) ⟨J, 1, rfl, hJ, Or.inl ⟨rfl, fun e he => hz e he, fun a ha => absurd ha (Nat.not_lt_zero _)⟩⟩ ?_ ?_)
        · rintro i _ hi ⟨J, m, rfl, hJ, ⟨rfl, hP, hF⟩ | ⟨rfl, j, hj, hF, hF2, hP⟩⟩
          · have hIJ : J 76 (258 * k) = nI n := by rw [hJ 76 (by decide)]; exact hI
            have hf1 := Fk_01 (LL (FV I k) (FV I l) n c 64) i
            simp (disch := omega) only [if_pos, if_neg, o_b1_s, o_b2_s, o_b3_s, o_b4_s, o_s1_s, o_s2_l, o_s2_r, o_g_t, i_add, i_mul, i_sub, i_and, i_or, i_xor, i_sd, i_shl, Nat.one_mul, i_eq, i_lt, i_le, i_n0, i_0le, i_e0, i_0lt, i_le0, i_cl, bz_0, wp_s, lq_l, lq_r, if_true, if_false, ite_not, true_and, and_true, m_285_b43]
            refine wp_b2 (wp_mono (s_284 (I := J) (t := t) (L := L) hk hl hn hIJ hc2 hP) ?_)
            rw [(hf J hJ).1, (hf J hJ).2]
            rintro ⟨x, K⟩ ⟨k1, k2, k3⟩
            dsimp only at k1 k2 k3
            have k1' : x = nI (Fk (LL (FV I k) (FV I l) n c 64) i) := k1
            have k2' : PE K 85 (Pk (LL (FV I k) (FV I l) n c 64) (i + 1)) := k2
            have fr : ot I K 85 := fun q hq => (k3 q hq).trans (hJ q hq)
            rw [k1']
            simp (disch := omega) only [o_b1_s, o_b2_s, o_b3_s, o_b4_s, o_s1_s, o_s2_l, o_s2_r, o_g_t, i_add, i_mul, i_sub, i_and, i_or, i_xor, i_sd, i_shl, Nat.one_mul, i_eq, i_lt, i_le, i_n0, i_0le, i_e0, i_0lt, i_le0, i_cl, bz_0, wp_s, lq_l, lq_r, if_true, if_false, ite_not, true_and, and_true]
            by_cases e : Fk (LL (FV I k) (FV I l) n c 64) i = 0
            · rw [(Fk_0 e).1] at k2'
              exact ⟨K, 0, by rw [e], fr, Or.inr ⟨rfl, i, rfl, e, hF, k2'⟩⟩
            · refine ⟨K, 1, by rw [show Fk (LL (FV I k) (FV I l) n c 64) i = 1 by omega], fr, Or.inl ⟨rfl, k2', fun a ha => ?_⟩⟩
              by_cases e2 : a = i
              · rw [e2]
                exact e
              · exact hF a (by omega)
          · simp (disch := omega) only [if_pos, if_neg, o_b1_s, o_b2_s, o_b3_s, o_b4_s, o_s1_s, o_s2_l, o_s2_r, o_g_t, i_add, i_mul, i_sub, i_and, i_or, i_xor, i_sd, i_shl, Nat.one_mul, i_eq, i_lt, i_le, i_n0, i_0le, i_e0, i_0lt, i_le0, i_cl, bz_0, wp_s, lq_l, lq_r, if_true, if_false, ite_not, true_and, and_true, m_285_b43, m_285_x43_70]
            exact ⟨hJ, Or.inl ⟨j, by omega, hF, hF2, hP⟩⟩
        · rintro _ ⟨J, m, rfl, hJ, ⟨rfl, hP, hF⟩ | ⟨rfl, j, hj, hF, hF2, hP⟩⟩
          · simp (disch := omega) only [if_pos, if_neg, o_b1_s, o_b2_s, o_b3_s, o_b4_s, o_s1_s, o_s2_l, o_s2_r, o_g_t, i_add, i_mul, i_sub, i_and, i_or, i_xor, i_sd, i_shl, Nat.one_mul, i_eq, i_lt, i_le, i_n0, i_0le, i_e0, i_0lt, i_le0, i_cl, bz_0, wp_s, lq_l, lq_r, if_true, if_false, ite_not, true_and, and_true, m_285_b43, m_285_x43_70]
            exact ⟨hJ, Or.inr (fun i hi => hF i (by omega))⟩
          · simp (disch := omega) only [if_pos, if_neg, o_b1_s, o_b2_s, o_b3_s, o_b4_s, o_s1_s, o_s2_l, o_s2_r, o_g_t, i_add, i_mul, i_sub, i_and, i_or, i_xor, i_sd, i_shl, Nat.one_mul, i_eq, i_lt, i_le, i_n0, i_0le, i_e0, i_0lt, i_le0, i_cl, bz_0, wp_s, lq_l, lq_r, if_true, if_false, ite_not, true_and, and_true, m_285_b43, m_285_x43_70]
            exact ⟨hJ, Or.inl ⟨j, by omega, hF, hF2, hP⟩⟩
    refine wp_mono goal2 ?_
    intro q hq
    refine ⟨fun h => (by cases h), fun d hd => ?_⟩
    cases hd
    exact hq
