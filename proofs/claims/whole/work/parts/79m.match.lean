/-! Makers: match, in the reference. -/
theorem pc_x : ∀ j, j < 256 → ∀ e, e < 8 → j.testBit e = true → pc (j ^^^ 2 ^ e) + 1 = pc j := by decide +kernel
theorem has_bit {j n : Nat} (hj : 0 < j) (hn : j < 2 ^ n) : ∃ e, e < n ∧ j.testBit e = true := Classical.byContradiction (fun hc => by
  have h0 : j = 0 := tb_ext (fun x => by
    rw [Nat.zero_testBit]
    constructor
    · intro h
      by_cases hx : x < n
      · exact absurd ⟨x, hx, h⟩ hc
      · rw [tb_hi hn (by omega)] at h
        cases h
    · intro h
      cases h)
  omega)
theorem bst_b {B : Nat → Int32} {w : Nat → Nat → Int32} {n r : Nat} (hn : n ≤ 8) (hB : BST B w n r (2 ^ n)) (hw : ∀ q e, q < r → e < n → -999 ≤ (w q e).toInt ∧ (w q e).toInt ≤ 999) : ∀ j, j < 2 ^ n → pc j ≤ r → -(999 * (pc j : Int)) ≤ (B j).toInt ∧ (B j).toInt ≤ 999 * (pc j : Int) := by
  intro j
  induction j using Nat.strongRecOn with
  | _ j ih =>
    intro hj hp
    have h8 := p2_le hn
    by_cases h0 : j = 0
    · rw [h0, hB.1, show pc 0 = 0 by decide]
      exact ⟨by decide, by decide⟩
    · rcases hB.2 j (by omega) hj hp with ⟨-, h2⟩ | ⟨⟨e, e1, e2, e3⟩, -⟩
      · obtain ⟨e, e1, e2⟩ := has_bit (by omega) hj
        exact absurd ⟨e, e1, e2, rfl⟩ (h2 _)
      · have hx := xr_all j (by omega) e (by omega) e2
        have hpx := pc_x j (by omega) e (by omega) e2
        have hi := ih _ hx.1 (by omega) (by omega)
        have hwe := hw (pc j - 1) e (by omega) e1
        have hp8 := pc_le j
        rw [e3, Int32.toInt_add, Int.bmod_eq_of_le (by omega) (by omega)]
        omega
theorem bst_no {B : Nat → Int32} {w : Nat → Nat → Int32} {n r j : Nat} (hn : n ≤ 8) (hB : BST B w n r (2 ^ n)) (hw : ∀ q e, q < r → e < n → -999 ≤ (w q e).toInt ∧ (w q e).toInt ≤ 999) (hj : j < 2 ^ n) (hp : pc j ≤ r) : B j ≠ NO := fun h => by
  have h1 := bst_b hn hB hw j hj hp
  have h8 := pc_le j
  rw [h, show NO.toInt = -2147483648 by decide] at h1
  omega
/-- where the reference stands within row q, with sets from m on behind it -/
def RWd (B : Nat → Int32) (w : Nat → Nat → Int32) (n q m : Nat) (D : Nat → Int32) : Prop := (∀ j, j < 256 → ¬ (j < 2 ^ n ∧ pc j = q + 1) → D j = if j < 2 ^ n ∧ pc j = q ∧ j < m then B j else NO) ∧ ∀ j, j < 2 ^ n → pc j = q + 1 → MX (fun z => ∃ e, e < n ∧ j.testBit e = true ∧ m ≤ j ^^^ 2 ^ e ∧ z = B (j ^^^ 2 ^ e) + w q e) (D j)
theorem RWd_end {B D : Nat → Int32} {w : Nat → Nat → Int32} {n r q : Nat} (hn : n ≤ 8) (hB : BST B w n r (2 ^ n)) (hq : q < r) (h : RWd B w n q 0 D) : ∀ j, j < 256 → D j = if j < 2 ^ n ∧ pc j = q + 1 then B j else NO := by
  intro j hj
  by_cases c : j < 2 ^ n ∧ pc j = q + 1
  · rw [if_pos c]
    have h0 : 0 < j := by
      apply Nat.pos_of_ne_zero
      intro h0
      have h1 := c.2
      rw [h0, show pc 0 = 0 by decide] at h1
      omega
    refine MX_eq (h.2 j c.1 c.2) (hB.2 j h0 c.1 (by omega)) (fun z => ?_)
    unfold bcd
    rw [c.2, show q + 1 - 1 = q by omega]
    exact ⟨fun ⟨e, h1, h2, _, h3⟩ => ⟨e, h1, h2, h3⟩, fun ⟨e, h1, h2, h3⟩ => ⟨e, h1, h2, Nat.zero_le _, h3⟩⟩
  · rw [if_neg c, h.1 j hj c, if_neg (fun h9 => absurd h9.2.2 (Nat.not_lt_zero _))]
theorem or_x : ∀ k, k < 256 → ∀ e, e < 8 → k.testBit e = false → pc (k ||| 2 ^ e) = pc k + 1 ∧ (k ||| 2 ^ e) ^^^ 2 ^ e = k ∧ (k ||| 2 ^ e).testBit e = true := by decide +kernel
theorem x_or : ∀ j, j < 256 → ∀ e, e < 8 → j.testBit e = true → (j ^^^ 2 ^ e).testBit e = false := by decide +kernel
def RWi (B : Nat → Int32) (w : Nat → Nat → Int32) (n q k i : Nat) (D : Nat → Int32) : Prop := (∀ j, j < 256 → ¬ (j < 2 ^ n ∧ pc j = q + 1) → D j = if j < 2 ^ n ∧ pc j = q ∧ j < k + 1 then B j else NO) ∧ ∀ j, j < 2 ^ n → pc j = q + 1 → MX (fun z => (∃ e, e < n ∧ j.testBit e = true ∧ k + 1 ≤ j ^^^ 2 ^ e ∧ z = B (j ^^^ 2 ^ e) + w q e) ∨ ∃ e, e < i ∧ k.testBit e = false ∧ j = k ||| 2 ^ e ∧ z = B k + w q e) (D j)
theorem RWi_0 {B D : Nat → Int32} {w : Nat → Nat → Int32} {n q k : Nat} (h : RWd B w n q (k + 1) D) : RWi B w n q k 0 D := ⟨h.1, fun j h1 h2 => MX_cong (h.2 j h1 h2) (fun z => ⟨Or.inl, fun h => h.resolve_right (fun ⟨e, he, _⟩ => absurd he (Nat.not_lt_zero _))⟩)⟩
theorem RWi_t {B D : Nat → Int32} {w : Nat → Nat → Int32} {n q k i : Nat} (hn : n ≤ 8) (hk : k < 2 ^ n) (hi : i < n) (hp : pc k = q) (hb : k.testBit i = false) (h : RWi B w n q k i D) : RWi B w n q k (i + 1) (va_up D (k ||| 2 ^ i) (mx (D (k ||| 2 ^ i)) (B k + w q i))) := by
  have h8 := p2_le hn
  have ho := or_x k (by omega) i (by omega) hb
  have hlt : k ||| 2 ^ i < 2 ^ n := Nat.or_lt_two_pow hk (Nat.pow_lt_pow_right (by decide) hi)
  refine ⟨fun j hj hc => ?_, fun j h1 h2 => ?_⟩
  · rw [up_ne (fun e => hc (by rw [e]; exact ⟨hlt, by omega⟩))]
    exact h.1 j hj hc
  · by_cases c : j = k ||| 2 ^ i
    · subst c
      rw [up_eq]
      refine MX_cong (MX_add (h.2 _ h1 h2)) (fun z => ?_)
      constructor
      · rintro ((h3 | ⟨e, e1, e2⟩) | h3)
        · exact Or.inl h3
        · exact Or.inr ⟨e, by omega, e2⟩
        · exact Or.inr ⟨i, by omega, hb, rfl, h3⟩
      · rintro (h3 | ⟨e, e1, e2, e3, e4⟩)
        · exact Or.inl (Or.inl h3)
        · by_cases c2 : e = i
          · rw [c2] at e4
            exact Or.inr e4
          · exact Or.inl (Or.inr ⟨e, by omega, e2, e3, e4⟩)
    · rw [up_ne c]
      refine MX_cong (h.2 j h1 h2) (fun z => ?_)
      constructor
      · rintro (h3 | ⟨e, e1, e2⟩)
        · exact Or.inl h3
        · exact Or.inr ⟨e, by omega, e2⟩
      · rintro (h3 | ⟨e, e1, e2, e3, e4⟩)
        · exact Or.inl h3
        · by_cases c2 : e = i
          · rw [c2] at e3
            exact absurd e3 c
          · exact Or.inr ⟨e, by omega, e2, e3, e4⟩
theorem RWi_f {B D : Nat → Int32} {w : Nat → Nat → Int32} {n q k i : Nat} (hb : k.testBit i = true) (h : RWi B w n q k i D) : RWi B w n q k (i + 1) D := ⟨h.1, fun j h1 h2 => MX_cong (h.2 j h1 h2) (fun z => by
  constructor
  · rintro (h3 | ⟨e, e1, e2⟩)
    · exact Or.inl h3
    · exact Or.inr ⟨e, by omega, e2⟩
  · rintro (h3 | ⟨e, e1, e2, e3⟩)
    · exact Or.inl h3
    · by_cases c2 : e = i
      · rw [c2, hb] at e2
        cases e2
      · exact Or.inr ⟨e, by omega, e2, e3⟩)⟩
theorem RWi_n {B D : Nat → Int32} {w : Nat → Nat → Int32} {n q k : Nat} (hn : n ≤ 8) (hk : k < 2 ^ n) (hp : pc k = q) (h : RWi B w n q k n D) : RWd B w n q k (va_up D k NO) := by
  have h8 := p2_le hn
  refine ⟨fun j hj hc => ?_, fun j h1 h2 => ?_⟩
  · by_cases c : j = k
    · rw [c, up_eq, if_neg (fun h => absurd h.2.2 (Nat.lt_irrefl _))]
    · rw [up_ne c, h.1 j hj hc]
      by_cases c2 : j < 2 ^ n ∧ pc j = q ∧ j < k + 1
      · rw [if_pos c2, if_pos ⟨c2.1, c2.2.1, by omega⟩]
      · rw [if_neg c2, if_neg (fun h => c2 ⟨h.1, h.2.1, by omega⟩)]
  · rw [up_ne (fun e => by rw [e] at h2; omega)]
    refine MX_cong (h.2 j h1 h2) (fun z => ?_)
    constructor
    · rintro (⟨e, e1, e2, e3, e4⟩ | ⟨e, e1, e2, e3, e4⟩)
      · exact ⟨e, e1, e2, by omega, e4⟩
      · have ho := or_x k (by omega) e (by omega) e2
        exact ⟨e, e1, by rw [e3]; exact ho.2.2, by rw [e3, ho.2.1]; omega, by rw [e3, ho.2.1]; exact e4⟩
    · rintro ⟨e, e1, e2, e3, e4⟩
      by_cases c : j ^^^ 2 ^ e = k
      · have hx := xr_all j (by omega) e (by omega) e2
        have hy := x_or j (by omega) e (by omega) e2
        rw [c] at hy e4 hx
        exact Or.inr ⟨e, e1, hy, hx.2.symm, e4⟩
      · exact Or.inl ⟨e, e1, e2, by omega, e4⟩
theorem RWd_skip {B D : Nat → Int32} {w : Nat → Nat → Int32} {n q k : Nat} (hn : n ≤ 8) (hp : ¬ pc k = q) (h : RWd B w n q (k + 1) D) : RWd B w n q k D := by
  have h8 := p2_le hn
  refine ⟨fun j hj hc => ?_, fun j h1 h2 => MX_cong (h.2 j h1 h2) (fun z => ?_)⟩
  · rw [h.1 j hj hc]
    by_cases c2 : j < 2 ^ n ∧ pc j = q ∧ j < k + 1
    · rw [if_pos c2, if_pos ⟨c2.1, c2.2.1, by
        by_cases e : j = k
        · rw [e] at c2
          exact absurd c2.2.1 hp
        · omega⟩]
    · rw [if_neg c2, if_neg (fun h => c2 ⟨h.1, h.2.1, by omega⟩)]
  · constructor
    · rintro ⟨e, e1, e2, e3, e4⟩
      exact ⟨e, e1, e2, by omega, e4⟩
    · rintro ⟨e, e1, e2, e3, e4⟩
      refine ⟨e, e1, e2, ?_, e4⟩
      have hpx := pc_x j (by omega) e (by omega) e2
      by_cases c : j ^^^ 2 ^ e = k
      · rw [c] at hpx
        omega
      · omega
theorem s_225 {I J : ai_I} {t L at' n r : Nat} {B : Nat → Int32} {w : Nat → Nat → Int32} (hn : n ≤ 8) (hr : r ≤ 8) (ha : at' + n * r ≤ 120) (hI : ∀ q e, q < r → e < n → I 80 (at' + n * q + e) = w q e) (hB : BST B w n r (2 ^ n)) (hw : ∀ q e, q < r → e < n → -999 ≤ (w q e).toInt ∧ (w q e).toInt ≤ 999) (h1 : ∀ c, ¬ c = 75 → ¬ c = 81 → ¬ c = 82 → J c = I c) (h2 : ∀ j, ¬ j = 18 → ¬ j = 19 → J 75 j = I 75 j) : wp (m_225 75 (nI n) (nI r) (nI at') J (Rc t) (Gc L)) (fun K => MR I K (nI n) (nI r) (fun j => if j < 2 ^ n ∧ pc j = r then B j else NO)) := by
  have h8 := p2_le hn
  have h0 := Nat.two_pow_pos n
  unfold m_225
  refine wp_b1 (wp_mono (s_219 (n := nI n) (r := nI r) h1 h2) ?_)
  rintro M0 ⟨hM0, -⟩
  rw [r_75_16, g_81 (by decide), o_g_t, o_b1_s]
  refine wp_s1 (wp_lp (fun q s => s.1 = nI q ∧ MR I s.2 (nI n) (nI r) (fun j => if j < 2 ^ n ∧ pc j = q then B j else NO)) 0 r (Nat.zero_le _) (by omega) ⟨rfl, MR_cong (MR_up hM0) (fun j hj => ?_)⟩ ?_ ?_)
  · by_cases c : j = 0
    · rw [c, show (nI 0).toNatClampNeg = 0 from rfl, up_eq, if_pos ⟨h0, by decide⟩, hB.1]
    · rw [show (nI 0).toNatClampNeg = 0 from rfl, up_ne c, if_neg (fun h => by have := pc_pos (show 0 < j by omega) hj; omega)]
  · rintro q ⟨s, M⟩ hq ⟨g1, g2⟩
    dsimp only at g1 g2
    subst g1
    unfold m_225_b16
    dsimp only
    rw [if_neg (nI_ge hq (by omega)), i_shl (by decide) (by omega), Nat.one_mul, i_sub h0, o_b1_s]
    refine wp_s1 (wp_lpd (fun m s => s.1 = dwn m ∧ ∃ D, MR I s.2 (nI n) (nI r) D ∧ RWd B w n q m D) 0 (2 ^ n) (Nat.zero_le _) (by omega) ⟨(dwn_p h0).symm, _, g2, fun j hj hc => ?_, fun j j1 j2 => Or.inl ⟨?_, ?_⟩⟩ ?_ ?_)
    · dsimp only
      by_cases c : j < 2 ^ n ∧ pc j = q
      · rw [if_pos c, if_pos ⟨c.1, c.2, c.1⟩]
      · rw [if_neg c, if_neg (fun h => c ⟨h.1, h.2.1⟩)]
    · exact if_neg (fun h => by omega)
    · rintro y ⟨e, e1, e2, e3, -⟩
      have := (xr_all j (by omega) e (by omega) e2).1
      omega
    · rintro k ⟨s, K⟩ - hk ⟨p1, D, d1, d2⟩
      dsimp only at p1 d1
      rw [dwn_s] at p1
      subst p1
      have hpk := pc_le k
      unfold m_225_b29
      dsimp only
      rw [if_neg (nI_pos (by omega)), s_193 (by omega), o_b1_s, q_eq (by omega) (by omega)]
      by_cases c : pc k = q
      · have hDk : D k = B k := by
          rw [d2.1 k (by omega) (fun h => by omega), if_pos ⟨hk, c, by omega⟩]
        have hno := bst_no hn hB hw hk (by omega)
        rw [if_pos c, r_75_16, g_81 (by omega), o_g_t, i_cl (by omega), if_neg (show ¬ K 81 k = -2147483648 by rw [d1.2.2.2.2 k (by omega), hDk]; exact hno)]
        refine wp_s1 (wp_lp (fun e s => s.1 = nI e ∧ ∃ D, MR I s.2 (nI n) (nI r) D ∧ RWi B w n q k e D) 0 n (Nat.zero_le _) (by omega) ⟨rfl, D, d1, RWi_0 d2⟩ ?_ ?_)
        · rintro e ⟨s, N⟩ he ⟨p1, E, e1, e2⟩
          dsimp only at p1 e1
          subst p1
          have hEk : E k = B k := by
            rw [e2.1 k (by omega) (fun h => by omega), if_pos ⟨hk, c, by omega⟩]
          unfold m_225_b62
          dsimp only
          rw [if_neg (nI_ge he (by omega)), s_192 (by omega) (by omega), o_b1_s, q_bz]
          by_cases c2 : k.testBit e = true
          · rw [if_pos c2, i_add, o_b1_s, wp_s, lq_l]
            exact ⟨rfl, E, e1, RWi_f c2 e2⟩
          · have hlt : at' + n * q + e < 120 := by
              have h3 : n * (q + 1) ≤ n * r := Nat.mul_le_mul_left n hq
              rw [Nat.mul_add, Nat.mul_one] at h3
              omega
            rw [if_neg c2, r_75_16, g_81 (by omega), o_g_t, r_75_15, i_mul, i_add, i_add, g_80 hlt, o_g_t, i_shl (by decide) (by omega), Nat.one_mul, i_or, i_cl (by omega), i_cl (by omega), e1.2.2.2.2 k (by omega), hEk, e1.1 80 (by decide) (by decide) (by decide), hI q e hq he]
            refine wp_b1 (wp_mono (s_220 (t := t) (L := L) (k := k ||| 2 ^ e) (x := B k + w q e) e1 (bit_or_lt (by omega) (p2_lt (by omega)))) ?_)
            rintro O ⟨o1, -⟩
            rw [i_add, o_b1_s, wp_s, lq_l]
            exact ⟨rfl, _, o1, RWi_t hn hk he c (not_tb c2) e2⟩
        · rintro ⟨s, N⟩ ⟨p1, E, e1, e2⟩
          dsimp only at p1 e1
          subst p1
          unfold m_225_b62
          dsimp only
          rw [if_pos (Int32.le_refl _), wp_s, lq_r]
          unfold m_225_x62_117
          rw [r_75_16, g_81 (by omega), o_g_t, i_cl (by omega), o_b1_s, o_b1_s, wp_s, lq_l]
          exact ⟨rfl, _, MR_up e1, RWi_n hn hk c e2⟩
      · rw [if_neg c, o_b1_s, wp_s, lq_l]
        exact ⟨rfl, D, d1, RWd_skip hn c d2⟩
    · rintro ⟨s, K⟩ ⟨p1, D, d1, d2⟩
      dsimp only at p1 d1
      rw [dwn_0] at p1
      subst p1
      unfold m_225_b29
      dsimp only
      rw [if_pos (by decide), wp_s, lq_r]
      unfold m_225_x29_132
      rw [i_add, o_b1_s, wp_s, lq_l]
      exact ⟨rfl, MR_cong d1 (RWd_end hn hB hq d2)⟩
  · rintro ⟨s, M⟩ ⟨g1, g2⟩
    dsimp only at g1 g2
    subst g1
    unfold m_225_b16
    dsimp only
    rw [if_pos (Int32.le_refl _), wp_s, lq_r]
    exact ⟨M, rfl, g2⟩
