/-! The law's small methods: twice, values, priced. -/
theorem i2_add {x y : Int32} (h1 : -1000000 ≤ x.toInt) (h2 : x.toInt ≤ 1000000) (h3 : -1000000 ≤ y.toInt) (h4 : y.toInt ≤ 1000000) : (x + y).toInt = x.toInt + y.toInt := by
  rw [Int32.toInt_add, Int.bmod_eq_of_le (by omega) (by omega)]
theorem WF_b {n r x : Nat} {V : Nat → Int32} (h : WF n r V) (hx : x < 256) (hV : V x ≠ NO) : -1000000 ≤ (V x).toInt ∧ (V x).toInt ≤ 1000000 := by
  obtain ⟨-, -, h1, h2⟩ := h.2.2.2.2.1 x hx hV
  rw [Int32.le_iff_toInt_le, show (-1000000 : Int32).toInt = -1000000 from by decide] at h1
  rw [Int32.le_iff_toInt_le, show (1000000 : Int32).toInt = 1000000 from by decide] at h2
  exact ⟨h1, h2⟩
theorem sd_x {a i : Nat} (h : a.testBit i = true) : sd a (2 ^ i) = a ^^^ 2 ^ i := by
  apply Nat.eq_of_testBit_eq
  intro k
  rw [sd_bit, Nat.testBit_xor, Nat.testBit_two_pow]
  by_cases c : i = k
  · subst c
    rw [decide_eq_true (rfl : i = i), h]
    rfl
  · rw [decide_eq_false c]
    cases a.testBit k <;> rfl
section
variable {I : ai_I} {t s v p : Nat} {L : ai_G} {A : SV} {V P : Nat → Int32}
/-- the law's greatest so far, and the class's -/
def TWR (m : Int32) (q : Int32 × Nat) : Prop := (q.2 = 0 ∧ m = -99999999 ∧ q.1 = NO) ∨ (1 ≤ q.2 ∧ m = q.1)
theorem k_twice {n r hav set : Nat} (hW : WF n r V) (hv : ary L v 256) (h : HV I v V) (hp : ary L p 8) (hP : ∀ e, e < 8 → I p e = P e ∧ -1000000 ≤ (P e).toInt ∧ (P e).toInt ≤ 1000000) (hh : hav < 256) (hs : set < 256) : m_130 v p (nI hav) (nI set) I (Gc L) = some (bz (¬ (tws V P hav set).2 = 1)) := by
  have key : wp (m_130 v p (nI hav) (nI set) I (Gc L)) (fun q => q = bz (¬ (tws V P hav set).2 = 1)) := by
    unfold m_130
    refine wp_s1 (wp_mono (wp_lp (Q := fun q => q = nI (tws V P hav set).2 ∧ (tws V P hav set).2 ≤ 8) (fun e s => s.2.2 = nI e ∧ s.2.1 = nI (fd (twc V P hav set) (List.range e) (NO, 0)).2 ∧ (fd (twc V P hav set) (List.range e) (NO, 0)).2 ≤ e ∧ TWR s.1 (fd (twc V P hav set) (List.range e) (NO, 0))) 0 8 (by decide) (by decide) ⟨rfl, rfl, Nat.le_refl _, Or.inl ⟨rfl, rfl, rfl⟩⟩ ?_ ?_) ?_)
    · rintro e ⟨m, k, i⟩ he ⟨g1, g2, g3, g4⟩
      dsimp only at g1 g2 g4
      subst g1
      subst g2
      have h2e : 2 ^ e < 256 := Nat.pow_lt_pow_right (by decide) he
      rw [show fd (twc V P hav set) (List.range (e + 1)) (NO, 0) = twc V P hav set e (fd (twc V P hav set) (List.range e) (NO, 0)) from by rw [List.range_succ, fd_append]; rfl]
      generalize fd (twc V P hav set) (List.range e) (NO, 0) = q at g3 g4
      obtain ⟨q1, q2⟩ := q
      dsimp only at g3
      unfold m_130_b10
      dsimp only
      rw [q_leF (by omega) he, i_and, k_has (bit_and_lt hs) he, o_b1_s, q_bz]
      unfold twc
      by_cases c1 : (set &&& hav).testBit e = true
      · have cs : set.testBit e = true := by
          rw [Nat.testBit_and, Bool.and_eq_true] at c1
          exact c1.1
        have hx : set ^^^ 2 ^ e < 256 := bit_xor_lt hs h2e
        rw [if_pos c1, if_pos c1, i_shl (by decide) (show e < 9 by omega), Nat.one_mul, i_sd, sd_x cs, k_isB hv h hx, o_b1_s, q_bz]
        by_cases c2 : V (set ^^^ 2 ^ e) ≠ NO
        · rw [if_pos c2, if_pos c2, ay_in hv hx (by decide), o_g_t, ay_in hp he (by decide), o_g_t, i_cl (by omega), i_cl (by omega), h _ hx, (hP e he).1, o_b1_s]
          have hb := WF_b hW hx c2
          have ha := i2_add hb.1 hb.2 (hP e he).2.1 (hP e he).2.2
          have hp1 := (hP e he).2
          generalize V (set ^^^ 2 ^ e) + P e = z at ha
          have hz : -2000000 ≤ z.toInt := by omega
          unfold m_130_j87
          rcases g4 with ⟨g4, g5, g6⟩ | ⟨g4, g5⟩
          · dsimp only at g4 g5 g6
            subst g4
            subst g5
            subst g6
            have n1 : ¬ z ≤ (-99999999 : Int32) := fun h9 => by
              rw [Int32.le_iff_toInt_le, show (-99999999 : Int32).toInt = -99999999 from by decide] at h9
              omega
            have n2 : ¬ z ≤ NO := fun h9 => by
              rw [Int32.le_iff_toInt_le, show NO.toInt = -2147483648 from by decide] at h9
              omega
            dsimp only
            rw [if_neg n1, if_neg n2, if_pos (Int32.not_le.1 n1), o_b1_s, i_add, o_b1_s, wp_s, lq_l]
            exact ⟨rfl, rfl, by dsimp only; omega, Or.inr ⟨Nat.le_refl _, rfl⟩⟩
          · dsimp only at g4 g5
            subst g5
            dsimp only
            by_cases c3 : z ≤ m
            · rw [if_pos c3, if_pos c3, if_neg (Int32.not_lt.2 c3)]
              by_cases c4 : z = m
              · rw [if_pos c4, if_pos c4, o_b1_s, i_add, i_add, o_b1_s, wp_s, lq_l]
                exact ⟨rfl, rfl, by dsimp only; omega, Or.inr ⟨by dsimp only; omega, rfl⟩⟩
              · rw [if_neg c4, if_neg c4, o_b1_s, i_add, o_b1_s, wp_s, lq_l]
                exact ⟨rfl, rfl, by dsimp only; omega, Or.inr ⟨g4, rfl⟩⟩
            · rw [if_neg c3, if_neg c3, if_pos (Int32.not_le.1 c3), o_b1_s, i_add, o_b1_s, wp_s, lq_l]
              exact ⟨rfl, rfl, by dsimp only; omega, Or.inr ⟨Nat.le_refl _, rfl⟩⟩
        · rw [if_neg c2, if_neg c2, i_add, o_b1_s, wp_s, lq_l]
          exact ⟨rfl, rfl, by dsimp only; omega, g4⟩
      · rw [if_neg c1, if_neg c1, i_add, o_b1_s, wp_s, lq_l]
        exact ⟨rfl, rfl, by dsimp only; omega, g4⟩
    · rintro ⟨m, k, i⟩ ⟨g1, g2, g3, g4⟩
      dsimp only at g1 g2
      subst g1
      subst g2
      unfold m_130_b10
      dsimp only
      rw [q_leT (by decide) (Nat.le_refl _), wp_s, lq_r]
      exact ⟨rfl, g3⟩
    · rintro q ⟨rfl, hq⟩
      unfold m_130_x10_104
      rw [q_eq (by omega) (by decide)]
      by_cases c : (tws V P hav set).2 = 1
      · rw [if_pos c, bz_f (fun h9 => h9 c)]
        exact ⟨_, rfl, rfl⟩
      · rw [if_neg c, bz_t c]
        exact ⟨_, rfl, rfl⟩
  obtain ⟨q, e, rfl⟩ := key
  exact e
/-- values of all sets -/
theorem k_values (h : KA I A) (hs : s < 4) (hz : 74 ≤ L.2.2) (hz9 : L.2.2 < 900) : wp (m_123 1 (nI s) I (Rc t) (Gc L)) (fun q => q.1 = L.2.2 + 1 ∧ q.2.2 = Gc (nw L 256) ∧ ot I q.2.1 (L.2.2 + 1) ∧ HV q.2.1 (L.2.2 + 1) (A.2.2.1 s)) := by
  unfold m_123
  refine al_n hz hz9 ?_
  have ha := nw_new (n := 256) hz
  refine wp_s1 (wp_lp (fun k s2 => s2.1 = nI k ∧ ot I s2.2 (L.2.2 + 1) ∧ ∀ x, x < k → s2.2 (L.2.2 + 1) x = A.2.2.1 s x) 0 256 (by decide) (by decide) ⟨rfl, fun c hc => up_ne hc, fun x hx => absurd hx (Nat.not_lt_zero _)⟩ ?_ ?_)
  · rintro k ⟨x, J⟩ hk ⟨g1, g2, g3⟩
    dsimp only at g1 g2 g3
    subst g1
    unfold m_123_b8
    dsimp only
    have hJ : KA J A := KA_f h (fun c c1 c2 => g2 c (by omega))
    rw [q_leF (by omega) hk, k_1, o_g_t, k_value hJ hs hk, o_b1_s, ay_in ha hk (by decide), o_g_t, o_b1_s, i_cl (by omega), i_add, o_b1_s, wp_s, lq_l]
    refine ⟨rfl, fun c hc => (up_ne hc).trans (g2 c hc), fun x hx => ?_⟩
    dsimp only
    rw [up_eq]
    by_cases c : x = k
    · rw [c, up_eq]
    · rw [up_ne c]
      exact g3 x (by omega)
  · rintro ⟨x, J⟩ ⟨g1, g2, g3⟩
    dsimp only at g1 g2 g3
    subst g1
    unfold m_123_b8
    dsimp only
    rw [q_leT (by decide) (Nat.le_refl _), wp_s, lq_r]
    unfold m_123_x8_30
    exact ⟨_, rfl, rfl, rfl, g2, g3⟩
/-- prices drawn, and told -/
theorem k_priced {r : Nat} (h : KA I A) (hz : 74 ≤ L.2.2) (hz9 : L.2.2 < 900) (hr : ary L r 1) : wp (m_125 1 r I (Rc t) (Gc L)) (fun q => q.1 = L.2.2 + 1 ∧ q.2.2 = Gc (nw L 8) ∧ (∀ c, ¬ c = 4 → ¬ c = r → ¬ c = L.2.2 + 1 → q.2.1 c = I c) ∧ ∃ P, KA q.2.1 (A.1, A.2.1, A.2.2.1, P) ∧ ∀ e, e < 8 → q.2.1 (L.2.2 + 1) e = P e) := by
  unfold m_125
  have hr1 := hr.1
  have hr2 := hr.2.1
  refine al_n hz hz9 ?_
  have ha := nw_new (n := 8) hz
  have hrn := nw_old (n := 8) hr
  refine wp_s1 (wp_lp (fun k s2 => s2.1 = nI k ∧ (∀ c, ¬ c = 4 → ¬ c = r → ¬ c = L.2.2 + 1 → s2.2 c = I c) ∧ ∃ P, KA s2.2 (A.1, A.2.1, A.2.2.1, P) ∧ ∀ e, e < k → s2.2 (L.2.2 + 1) e = P e) 0 8 (by decide) (by decide) ⟨rfl, fun c _ _ hc => up_ne hc, A.2.2.2, KA_f h (fun c c1 c2 => up_ne (by omega)), fun x hx => absurd hx (Nat.not_lt_zero _)⟩ ?_ ?_)
  · rintro k ⟨x, J⟩ hk ⟨g1, g2, P, g3, g4⟩
    dsimp only at g1 g2 g3 g4
    subst g1
    unfold m_125_b7
    dsimp only
    rw [q_leF (by omega) hk]
    refine wp_b2 (wp_mono (k_next hrn) ?_)
    rintro ⟨v, K⟩ ⟨v', v1, v2, v3⟩
    dsimp only at v2 v3 ⊢
    subst v2
    rw [k_rem (by omega) (by decide) (by decide), q_e0 (by omega)]
    -- a price is told
    have fin : ∀ (y : Int32) (K : ai_I), sml y → ot J K r → wp (m_125_j38 1 (Rc t) (Gc (nw L 8)) (L.2.2 + 1) (nI k) y K) (lq (fun s2 : Int32 × ai_I => s2.1 = nI (k + 1) ∧ (∀ c, ¬ c = 4 → ¬ c = r → ¬ c = L.2.2 + 1 → s2.2 c = I c) ∧ ∃ P, KA s2.2 (A.1, A.2.1, A.2.2.1, P) ∧ ∀ e, e < k + 1 → s2.2 (L.2.2 + 1) e = P e) (fun t_1 => wp (m_125_x7_54 (Gc (nw L 8)) (L.2.2 + 1) t_1) (fun q => q.1 = L.2.2 + 1 ∧ q.2.2 = Gc (nw L 8) ∧ (∀ c, ¬ c = 4 → ¬ c = r → ¬ c = L.2.2 + 1 → q.2.1 c = I c) ∧ ∃ P, KA q.2.1 (A.1, A.2.1, A.2.2.1, P) ∧ ∀ e, e < 8 → q.2.1 (L.2.2 + 1) e = P e))) := fun y K hy hK => by
      have hb := sml_b hy
      have hb1 : (-1000 : Int32) ≤ y := Int32.le_trans (by decide) hb.1
      have hb2 : y ≤ nI 1000 := Int32.le_trans hb.2.1 (by decide)
      unfold m_125_j38
      rw [ay_in ha hk (by decide), o_g_t, o_b1_s, o_g_t, k_1, o_g_t, i_cl (by omega), up_eq, up_eq, k_price (by omega) hb1 hb2, o_b2_s, i_add, o_b1_s, wp_s, lq_l]
      have hKA : KA (va_up K (L.2.2 + 1) (va_up (K (L.2.2 + 1)) k y)) (A.1, A.2.1, A.2.2.1, P) := KA_f g3 (fun c c1 c2 => by rw [up_ne (by omega), hK c (by omega)])
      refine ⟨rfl, fun c c1 c2 c3 => ?_, va_up P k y, KA_price hKA hk hb1 hb2, fun e he => ?_⟩
      · dsimp only
        rw [up_ne c1, up_ne c3, hK c c2]
        exact g2 c c1 c2 c3
      · dsimp only
        rw [up_ne (by omega), up_eq]
        by_cases c : e = k
        · rw [c, up_eq, up_eq]
        · rw [up_ne c, up_ne c, hK _ (by omega)]
          exact g4 e (by omega)
    by_cases c0 : v' % 3 = 0
    · rw [if_pos c0]
      exact fin (nI 0) K (sml_n (by decide)) v3
    · rw [if_neg c0]
      refine wp_b2 (wp_mono (k_next hrn) ?_)
      rintro ⟨v, M⟩ ⟨u, u1, u2, u3⟩
      dsimp only at u2 u3 ⊢
      subst u2
      rw [k_rem (by omega) (by decide) (by decide)]
      exact fin _ M (sml_sub (by omega) (by decide)) (fun c hc => (u3 c hc).trans (v3 c hc))
  · rintro ⟨x, J⟩ ⟨g1, g2, P, g3, g4⟩
    dsimp only at g1 g2 g3 g4
    subst g1
    unfold m_125_b7
    dsimp only
    rw [q_leT (by decide) (Nat.le_refl _), wp_s, lq_r]
    unfold m_125_x7_54
    exact ⟨_, rfl, rfl, rfl, g2, P, g3, g4⟩
end
