/-! Call share: greatest common divisors. -/
def fac : Nat → Nat
  | 0 => 1
  | k + 1 => (k + 1) * fac k
theorem c_81 : ∀ k, k < 9 → m_81 (nI k) = some (lN (fac k)) := by decide +kernel
theorem s_294 : ∀ k, k < 9 → m_294 (nI k) = some (lN (fac k)) := by decide +kernel
theorem fac_b : ∀ k, k < 9 → 0 < fac k ∧ fac k ≤ 40320 := by decide +kernel
theorem j0_lit : (0 : Int64) = lN 0 := by decide +kernel
theorem o_nzJ_of {b : Nat} (h : 0 < b) (hb : b < 2 ^ 63) : o_nzJ (lN b) = true := decide_eq_true (fun h2 => by
  rw [j0_lit, pk_lEQ hb (by decide)] at h2
  omega)
/-- where Euclid's way stands -/
def eu (K g i a b : Nat) : Prop := Nat.gcd a b = g ∧ a < 2 ^ 50 ∧ b < 2 ^ 50 ∧ 0 < a + b ∧ (i = 0 ∧ b * b * 2 ≤ 2 ^ K ∨ b < a ∧ a * b * 2 ^ i ≤ 2 ^ K)
theorem eu_step {K g i a b : Nat} (h : eu K g i a b) (hb : ¬ b = 0) : eu K g (i + 1) b (a % b) := by
  obtain ⟨h1, h2, h3, h4, h5⟩ := h
  have hm : a % b < b := Nat.mod_lt _ (by omega)
  refine ⟨by rw [← h1, Nat.gcd_comm b (a % b), ← Nat.gcd_rec, Nat.gcd_comm], h3, by omega, by omega, Or.inr ⟨hm, ?_⟩⟩
  rcases h5 with ⟨rfl, h5⟩ | ⟨h5, h6⟩
  · have h7 : b * (a % b) ≤ b * b := Nat.mul_le_mul_left b (by omega)
    have e : b * (a % b) * 2 ^ (0 + 1) = b * (a % b) * 2 := rfl
    rw [e]
    omega
  · have h7 : 2 * (a % b) ≤ a := by
      have h8 := Nat.div_add_mod a b
      have h9 : 1 ≤ a / b := (Nat.one_le_div_iff (by omega)).2 (by omega)
      have h10 : b * 1 ≤ b * (a / b) := Nat.mul_le_mul_left b h9
      omega
    have e : b * (a % b) * 2 ^ (i + 1) = b * (2 * (a % b)) * 2 ^ i := by
      rw [Nat.pow_succ]
      simp only [Nat.mul_assoc, Nat.mul_comm, Nat.mul_left_comm]
    rw [e]
    refine Nat.le_trans ?_ h6
    rw [Nat.mul_comm a b]
    exact Nat.mul_le_mul_right _ (Nat.mul_le_mul_left b h7)
theorem eu_end {K g a b : Nat} (h : eu K g (K + 1) a b) : b = 0 ∧ a = g := by
  obtain ⟨h1, h2, h3, h4, h5⟩ := h
  rcases h5 with ⟨h5, -⟩ | ⟨h5, h6⟩
  · omega
  · have hb : b = 0 := by
      apply Decidable.byContradiction
      intro hb
      have h7 : 1 * 2 ^ (K + 1) ≤ a * b * 2 ^ (K + 1) := Nat.mul_le_mul_right _ (Nat.mul_pos (by omega) (by omega))
      have h8 : 2 ^ K < 2 ^ (K + 1) := Nat.pow_lt_pow_right (by decide) (by omega)
      omega
    subst hb
    rw [Nat.gcd_zero_right] at h1
    exact ⟨rfl, h1⟩
theorem eu_zero {K g i a : Nat} (h : eu K g i a 0) : a = g := by
  have h1 := h.1
  rw [Nat.gcd_zero_right] at h1
  exact h1
theorem c_83 {a b : Nat} (ha : a < 2 ^ 50) (hb : b < 2 ^ 16) (hb0 : 0 < b) : wp (m_83 (lN a) (lN b)) (fun r => r = lN (Nat.gcd a b)) := by
  have h0 : eu 33 (Nat.gcd a b) 0 a b := ⟨rfl, ha, by omega, by omega, Or.inl ⟨rfl, by
    have : b * b ≤ 65536 * 65536 := Nat.mul_le_mul (by omega) (by omega)
    omega⟩⟩
  simp (disch := omega) only [o_b1_s, o_b2_s, o_b3_s, o_b4_s, o_s1_s, o_s2_l, o_s2_r, o_g_t, i_add, i_mul, i_sub, i_and, i_or, i_xor, i_sd, i_shl, Nat.one_mul, i_eq, i_lt, i_le, i_n0, i_0le, i_e0, i_0lt, i_le0, i_cl, bz_0, wp_s, lq_l, lq_r, if_true, if_false, ite_not, true_and, and_true, m_83]
  refine wp_s1 (wp_lp (fun i s => ∃ x y, s = (lN x, lN y, nI i) ∧ eu 33 (Nat.gcd a b) i x y) 0 34 (Nat.zero_le _) (by omega) ⟨a, b, rfl, h0⟩ ?_ ?_)
  · rintro i _ hi ⟨x, y, rfl, hE⟩
    have hx := hE.2.1
    have hy := hE.2.2.1
    simp (disch := omega) only [if_pos, if_neg, o_b1_s, o_b2_s, o_b3_s, o_b4_s, o_s1_s, o_s2_l, o_s2_r, o_g_t, i_add, i_mul, i_sub, i_and, i_or, i_xor, i_sd, i_shl, Nat.one_mul, i_eq, i_lt, i_le, i_n0, i_0le, i_e0, i_0lt, i_le0, i_cl, bz_0, wp_s, lq_l, lq_r, if_true, if_false, ite_not, true_and, and_true, m_83_b9, j0_lit, j_ceq, pk_lEQ]
    split
    · rename_i c
      subst c
      simp (disch := omega) only [o_b1_s, o_b2_s, o_b3_s, o_b4_s, o_s1_s, o_s2_l, o_s2_r, o_g_t, i_add, i_mul, i_sub, i_and, i_or, i_xor, i_sd, i_shl, Nat.one_mul, i_eq, i_lt, i_le, i_n0, i_0le, i_e0, i_0lt, i_le0, i_cl, bz_0, wp_s, lq_l, lq_r, if_true, if_false, ite_not, true_and, and_true, m_83_x9_44]
      rw [eu_zero hE]
    · rename_i c
      rw [o_nzJ_of (by omega) (by omega)]
      simp (disch := omega) only [o_b1_s, o_b2_s, o_b3_s, o_b4_s, o_s1_s, o_s2_l, o_s2_r, o_g_t, i_add, i_mul, i_sub, i_and, i_or, i_xor, i_sd, i_shl, Nat.one_mul, i_eq, i_lt, i_le, i_n0, i_0le, i_e0, i_0lt, i_le0, i_cl, bz_0, wp_s, lq_l, lq_r, if_true, if_false, ite_not, true_and, and_true, pk_lRem]
      exact ⟨_, _, rfl, eu_step hE c⟩
  · rintro _ ⟨x, y, rfl, hE⟩
    obtain ⟨rfl, rfl⟩ := eu_end hE
    simp (disch := omega) only [if_pos, if_neg, o_b1_s, o_b2_s, o_b3_s, o_b4_s, o_s1_s, o_s2_l, o_s2_r, o_g_t, i_add, i_mul, i_sub, i_and, i_or, i_xor, i_sd, i_shl, Nat.one_mul, i_eq, i_lt, i_le, i_n0, i_0le, i_e0, i_0lt, i_le0, i_cl, bz_0, wp_s, lq_l, lq_r, if_true, if_false, ite_not, true_and, and_true, m_83_b9, j0_lit, j_ceq, m_83_x9_44]
theorem s_295 {a b : Nat} (ha : a < 2 ^ 50) (hb : b < 2 ^ 43) (ha0 : 0 < a) : wp (m_295 (lN a) (lN b)) (fun r => r = lN (Nat.gcd a b)) := by
  have h0 : eu 87 (Nat.gcd a b) 0 a b := ⟨rfl, ha, by omega, by omega, Or.inl ⟨rfl, by
    have : b * b ≤ 2 ^ 43 * 2 ^ 43 := Nat.mul_le_mul (by omega) (by omega)
    omega⟩⟩
  simp (disch := omega) only [o_b1_s, o_b2_s, o_b3_s, o_b4_s, o_s1_s, o_s2_l, o_s2_r, o_g_t, i_add, i_mul, i_sub, i_and, i_or, i_xor, i_sd, i_shl, Nat.one_mul, i_eq, i_lt, i_le, i_n0, i_0le, i_e0, i_0lt, i_le0, i_cl, bz_0, wp_s, lq_l, lq_r, if_true, if_false, ite_not, true_and, and_true, m_295]
  refine wp_s1 (wp_lp (fun i s => ∃ x y, s = (lN x, lN y) ∧ eu 87 (Nat.gcd a b) i x y) 0 88 (Nat.zero_le _) (by omega) ⟨a, b, rfl, h0⟩ ?_ ?_)
  · rintro i _ hi ⟨x, y, rfl, hE⟩
    have hx := hE.2.1
    have hy := hE.2.2.1
    simp (disch := omega) only [o_b1_s, o_b2_s, o_b3_s, o_b4_s, o_s1_s, o_s2_l, o_s2_r, o_g_t, i_add, i_mul, i_sub, i_and, i_or, i_xor, i_sd, i_shl, Nat.one_mul, i_eq, i_lt, i_le, i_n0, i_0le, i_e0, i_0lt, i_le0, i_cl, bz_0, wp_s, lq_l, lq_r, if_true, if_false, ite_not, true_and, and_true, m_295_b6, j0_lit, j_ceq, pk_lEQ]
    split
    · rename_i c
      subst c
      simp (disch := omega) only [o_b1_s, o_b2_s, o_b3_s, o_b4_s, o_s1_s, o_s2_l, o_s2_r, o_g_t, i_add, i_mul, i_sub, i_and, i_or, i_xor, i_sd, i_shl, Nat.one_mul, i_eq, i_lt, i_le, i_n0, i_0le, i_e0, i_0lt, i_le0, i_cl, bz_0, wp_s, lq_l, lq_r, if_true, if_false, ite_not, true_and, and_true, m_295_x6_31]
      rw [eu_zero hE]
    · rename_i c
      rw [o_nzJ_of (by omega) (by omega)]
      simp (disch := omega) only [o_b1_s, o_b2_s, o_b3_s, o_b4_s, o_s1_s, o_s2_l, o_s2_r, o_g_t, i_add, i_mul, i_sub, i_and, i_or, i_xor, i_sd, i_shl, Nat.one_mul, i_eq, i_lt, i_le, i_n0, i_0le, i_e0, i_0lt, i_le0, i_cl, bz_0, wp_s, lq_l, lq_r, if_true, if_false, ite_not, true_and, and_true, pk_lRem]
      exact ⟨_, _, rfl, eu_step hE c⟩
  · rintro _ ⟨x, y, rfl, hE⟩
    obtain ⟨rfl, rfl⟩ := eu_end hE
    simp (disch := omega) only [if_pos, if_neg, o_b1_s, o_b2_s, o_b3_s, o_b4_s, o_s1_s, o_s2_l, o_s2_r, o_g_t, i_add, i_mul, i_sub, i_and, i_or, i_xor, i_sd, i_shl, Nat.one_mul, i_eq, i_lt, i_le, i_n0, i_0le, i_e0, i_0lt, i_le0, i_cl, bz_0, wp_s, lq_l, lq_r, if_true, if_false, ite_not, true_and, and_true, m_295_b6, j0_lit, j_ceq, m_295_x6_31]
theorem rk_up (V : Nat → Int32) {set e : Nat} (hs : set < 256) (he : e < 8) : rk V set ≤ rk V (set ||| 2 ^ e) := by
  obtain ⟨f1, f2, f3⟩ := fdm (fun k => pc (k &&& set)) (BL V) 0
  obtain ⟨g1, g2, g3⟩ := fdm (fun k => pc (k &&& (set ||| 2 ^ e))) (BL V) 0
  show fd (fun k a => max a (pc (k &&& set))) (BL V) 0 ≤ fd (fun k a => max a (pc (k &&& (set ||| 2 ^ e)))) (BL V) 0
  rcases f3 with f3 | ⟨x, hx, f3⟩
  · rw [f3]
    exact Nat.zero_le _
  · rw [← f3]
    refine Nat.le_trans ?_ (g2 x hx)
    have e1 : x &&& set = (x &&& (set ||| 2 ^ e)) &&& set := by
      rw [Nat.and_assoc, or_and_all set hs e he]
    show pc (x &&& set) ≤ pc (x &&& (set ||| 2 ^ e))
    rw [e1]
    exact pc_and_le _ _
/-- orders in which an element raises the rank -/
def ups (V : Nat → Int32) (n e : Nat) : Nat → Nat
  | 0 => 0
  | i + 1 => if i.testBit e = true then ups V n e i else ups V n e i + (rk V (i ||| 2 ^ e) - rk V i) * fac (pc i) * fac (n - 1 - pc i)
theorem ups_le (V : Nat → Int32) (n e : Nat) (hn : n ≤ 8) : ∀ i, i ≤ 256 → ups V n e i ≤ i * (8 * 40320 * 40320)
  | 0, _ => by unfold ups; omega
  | i + 1, h => by
    have ih := ups_le V n e hn i (by omega)
    rw [ups, Nat.succ_mul]
    split
    · exact Nat.le_trans ih (Nat.le_add_right _ _)
    · have h1 := rk_le V (i ||| 2 ^ e)
      have h2 := (fac_b (pc i) (by have := pc_le i; omega)).2
      have h3 := (fac_b (n - 1 - pc i) (by omega)).2
      exact Nat.add_le_add ih (Nat.mul_le_mul (Nat.mul_le_mul (by omega) h2) h3)
theorem pc_miss : ∀ n, n < 9 → ∀ x, x < 256 → x < 2 ^ n → ∀ e, e < n → x.testBit e = false → pc x + 1 ≤ n := by decide +kernel
theorem c_82 {I : ai_I} {t L v n r e : Nat} {V : Nat → Int32} (hv : v ∈ VC) (hW : WF n r V) (h : CS I v n r V) (he : e < n) : wp (m_82 v (nI e) I (Rc t) (Gc L)) (fun r => r = lN (ups V n e (2 ^ n))) := by
  have hn := hW.2.1
  have h8 := p2_le hn
  have pe := p2_lt (show e < 8 by omega)
  simp (disch := omega) only [o_b1_s, o_b2_s, o_b3_s, o_b4_s, o_s1_s, o_s2_l, o_s2_r, o_g_t, i_add, i_mul, i_sub, i_and, i_or, i_xor, i_sd, i_shl, Nat.one_mul, i_eq, i_lt, i_le, i_n0, i_0le, i_e0, i_0lt, i_le0, i_cl, bz_0, wp_s, lq_l, lq_r, if_true, if_false, ite_not, true_and, and_true, m_82, j0_lit]
  refine wp_s1 (wp_lp (fun i s => s = (lN (ups V n e i), nI i)) 0 (2 ^ n) (Nat.zero_le _) (by omega) rfl ?_ ?_)
  · rintro i _ hi rfl
    have ho : i ||| 2 ^ e < 256 := bit_or_lt (by omega) pe
    have r1 := rk_le V i
    have r2 := rk_le V (i ||| 2 ^ e)
    have r3 := rk_up V (set := i) (e := e) (by omega) (by omega)
    have r4 := pc_le i
    simp (disch := omega) only [if_pos, if_neg, o_b1_s, o_b2_s, o_b3_s, o_b4_s, o_s1_s, o_s2_l, o_s2_r, o_g_t, i_add, i_mul, i_sub, i_and, i_or, i_xor, i_sd, i_shl, Nat.one_mul, i_eq, i_lt, i_le, i_n0, i_0le, i_e0, i_0lt, i_le0, i_cl, bz_0, wp_s, lq_l, lq_r, if_true, if_false, ite_not, true_and, and_true, m_82_b5, v_kd hv, c_118 hn h.1, c_183, s_331, v_rr hv, v_gr hv, h.2.2.2.2.1, h.1]
    split
    · rename_i c
      simp (disch := omega) only [o_b1_s, o_b2_s, o_b3_s, o_b4_s, o_s1_s, o_s2_l, o_s2_r, o_g_t, i_add, i_mul, i_sub, i_and, i_or, i_xor, i_sd, i_shl, Nat.one_mul, i_eq, i_lt, i_le, i_n0, i_0le, i_e0, i_0lt, i_le0, i_cl, bz_0, wp_s, lq_l, lq_r, if_true, if_false, ite_not, true_and, and_true]
      rw [ups, if_pos c]
    · rename_i c
      have r5 := pc_miss n (by omega) i (by omega) hi e he (by cases hc : i.testBit e; rfl; exact absurd hc c)
      simp (disch := omega) only [o_b1_s, o_b2_s, o_b3_s, o_b4_s, o_s1_s, o_s2_l, o_s2_r, o_g_t, i_add, i_mul, i_sub, i_and, i_or, i_xor, i_sd, i_shl, Nat.one_mul, i_eq, i_lt, i_le, i_n0, i_0le, i_e0, i_0lt, i_le0, i_cl, bz_0, wp_s, lq_l, lq_r, if_true, if_false, ite_not, true_and, and_true, c_81, nI_l, lN_mul, lN_add]
      rw [ups, if_neg c]
  · rintro _ rfl
    simp (disch := omega) only [if_pos, if_neg, o_b1_s, o_b2_s, o_b3_s, o_b4_s, o_s1_s, o_s2_l, o_s2_r, o_g_t, i_add, i_mul, i_sub, i_and, i_or, i_xor, i_sd, i_shl, Nat.one_mul, i_eq, i_lt, i_le, i_n0, i_0le, i_e0, i_0lt, i_le0, i_cl, bz_0, wp_s, lq_l, lq_r, if_true, if_false, ite_not, true_and, and_true, m_82_b5, v_kd hv, c_118 hn h.1, m_82_x5_82]
theorem op_share {I : ai_I} {t L : Nat} (h : ST I) (s x y : Int32) : OPj (m_161 1 s x y I (Rc t) (Gc L)) (m_296 75 s x y I (Rc t) (Gc L)) := by
  unfold m_161 m_296
  rw [r_1_0, k_2, o_g_t, s_200, o_b1_s, q_bz]
  rcases x_cases s (n := 3) (by decide) with ⟨k, hk, rfl⟩ | hs
  · rw [c_96 (by omega), o_b1_s, if_neg (by omega), if_pos (nI_in03 hk)]
    obtain ⟨n, r, hW, hC, hI, hIr⟩ := h.1 k (by omega)
    have hn := hW.2.1
    have hn2 := hW.1
    have h8 := p2_le hn
    have h0 := Nat.two_pow_pos n
    have hv := vc_s (s := k) (by omega)
    rw [v_kd hv, o_g_t, c_120' hn (by omega) hC.1, s_202 (by omega) hn (by omega) hI, o_b1_s, o_b1_s, q_bz, q_bz]
    rcases x_cases x (n := n - 1) (by omega) with ⟨e, he, rfl⟩ | hx
    · have hin : nI 0 ≤ nI e ∧ nI e ≤ nI (n - 1) := ⟨nI_le (by omega) (by omega), nI_le he (by omega)⟩
      rw [if_pos hin, if_pos hin, j_lit.2.1, j1_lit, s_189i, o_b1_s, q_bz]
      rcases x_cases y (n := 1) (by decide) with ⟨w, hw, rfl⟩ | hy
      · have pe := p2_lt (show e < 8 by omega)
        rw [q_n0 (by omega), q_leT (by decide) hw, if_pos (show nI 0 ≤ nI w ∧ nI w ≤ nI 1 from ⟨nI_le (by omega) (by omega), nI_le hw (by decide)⟩)]
        obtain ⟨u, hu, rfl⟩ := c_82 (t := t) (L := L) hv hW hC (show e < n by omega)
        have hub := ups_le (FV I k) n e hn (2 ^ n) h8
        have hfb := fac_b n (by omega)
        have hub2 : ups (FV I k) n e (2 ^ n) < 2 ^ 43 := by
          have : 2 ^ n * (8 * 40320 * 40320) ≤ 256 * (8 * 40320 * 40320) := Nat.mul_le_mul_right _ h8
          omega
        obtain ⟨g1, hg1, rfl⟩ := c_83 (a := ups (FV I k) n e (2 ^ n)) (b := fac n) (by omega) (by omega) hfb.1
        obtain ⟨g2, hg2, rfl⟩ := s_295 (a := fac n) (b := ups (FV I k) n e (2 ^ n)) (by omega) (by omega) hfb.1
        have hg0 : 0 < Nat.gcd (ups (FV I k) n e (2 ^ n)) (fac n) := Nat.gcd_pos_of_pos_right _ hfb.1
        have hg9 : Nat.gcd (ups (FV I k) n e (2 ^ n)) (fac n) ≤ fac n := Nat.le_of_dvd hfb.1 (Nat.gcd_dvd_right _ _)
        have hr : wp (o_s1 (lp (fun s => m_296_b36 75 (nI k) (nI e) I (Rc t) (Gc L) s.1 s.2) o_N (lN 0, nI 0)) (fun q => m_296_x36_119 75 (nI k) (nI w) I (Rc t) (Gc L) q)) (fun r => r = if w = 0 then lN (ups (FV I k) n e (2 ^ n) / Nat.gcd (ups (FV I k) n e (2 ^ n)) (fac n)) else lN (fac n / Nat.gcd (ups (FV I k) n e (2 ^ n)) (fac n))) := by
          refine wp_s1 (wp_lp (fun i s => s = (lN (ups (FV I k) n e i), nI i)) 0 (2 ^ n) (Nat.zero_le _) (by omega) rfl ?_ ?_)
          · rintro i _ hi rfl
            have ho : i ||| 2 ^ e < 256 := bit_or_lt (by omega) pe
            have r1 := rk_le (FV I k) i
            have r2 := rk_le (FV I k) (i ||| 2 ^ e)
            have r3 := rk_up (FV I k) (set := i) (e := e) (by omega) (by omega)
            have r4 := pc_le i
            simp (disch := omega) only [if_pos, if_neg, o_b1_s, o_b2_s, o_b3_s, o_b4_s, o_s1_s, o_s2_l, o_s2_r, o_g_t, i_add, i_mul, i_sub, i_and, i_or, i_xor, i_sd, i_shl, Nat.one_mul, i_eq, i_lt, i_le, i_n0, i_0le, i_e0, i_0lt, i_le0, i_cl, bz_0, wp_s, lq_l, lq_r, if_true, if_false, ite_not, true_and, and_true, m_296_b36, s_197 (s := k) (by omega) hn hI, s_192, s_193, s_195, s_250, hI]
            split
            · rename_i c
              simp (disch := omega) only [o_b1_s, o_b2_s, o_b3_s, o_b4_s, o_s1_s, o_s2_l, o_s2_r, o_g_t, i_add, i_mul, i_sub, i_and, i_or, i_xor, i_sd, i_shl, Nat.one_mul, i_eq, i_lt, i_le, i_n0, i_0le, i_e0, i_0lt, i_le0, i_cl, bz_0, wp_s, lq_l, lq_r, if_true, if_false, ite_not, true_and, and_true]
              rw [ups, if_pos c]
            · rename_i c
              have r5 := pc_miss n (by omega) i (by omega) hi e (by omega) (by cases hc : i.testBit e; rfl; exact absurd hc c)
              simp (disch := omega) only [o_b1_s, o_b2_s, o_b3_s, o_b4_s, o_s1_s, o_s2_l, o_s2_r, o_g_t, i_add, i_mul, i_sub, i_and, i_or, i_xor, i_sd, i_shl, Nat.one_mul, i_eq, i_lt, i_le, i_n0, i_0le, i_e0, i_0lt, i_le0, i_cl, bz_0, wp_s, lq_l, lq_r, if_true, if_false, ite_not, true_and, and_true, s_294, nI_l, lN_mul, lN_add, show n - pc i - 1 = n - 1 - pc i by omega]
              rw [ups, if_neg c]
          · rintro _ rfl
            simp (disch := omega) only [if_pos, if_neg, o_b1_s, o_b2_s, o_b3_s, o_b4_s, o_s1_s, o_s2_l, o_s2_r, o_g_t, i_add, i_mul, i_sub, i_and, i_or, i_xor, i_sd, i_shl, Nat.one_mul, i_eq, i_lt, i_le, i_n0, i_0le, i_e0, i_0lt, i_le0, i_cl, bz_0, wp_s, lq_l, lq_r, if_true, if_false, ite_not, true_and, and_true, m_296_b36, s_197 (s := k) (by omega) hn hI, m_296_x36_119, s_195, hI, s_294]
            rw [hg2, Nat.gcd_comm (fac n)]
            simp (disch := omega) only [o_b1_s, o_b2_s, o_b3_s, o_b4_s, o_s1_s, o_s2_l, o_s2_r, o_g_t, i_add, i_mul, i_sub, i_and, i_or, i_xor, i_sd, i_shl, Nat.one_mul, i_eq, i_lt, i_le, i_n0, i_0le, i_e0, i_0lt, i_le0, i_cl, bz_0, wp_s, lq_l, lq_r, if_true, if_false, ite_not, true_and, and_true, o_nzJ_of, pk_lDiv]
            split <;> simp (disch := omega) only [o_b1_s, o_b2_s, o_b3_s, o_b4_s, o_s1_s, o_s2_l, o_s2_r, o_g_t, i_add, i_mul, i_sub, i_and, i_or, i_xor, i_sd, i_shl, Nat.one_mul, i_eq, i_lt, i_le, i_n0, i_0le, i_e0, i_0lt, i_le0, i_cl, bz_0, wp_s, lq_l, lq_r, if_true, if_false, ite_not, true_and, and_true]
        obtain ⟨v, hv2, rfl⟩ := hr
        refine ⟨_, ?_, hv2⟩
        rw [hu]
        simp (disch := omega) only [o_b1_s, o_b2_s, o_b3_s, o_b4_s, o_s1_s, o_s2_l, o_s2_r, o_g_t, i_add, i_mul, i_sub, i_and, i_or, i_xor, i_sd, i_shl, Nat.one_mul, i_eq, i_lt, i_le, i_n0, i_0le, i_e0, i_0lt, i_le0, i_cl, bz_0, wp_s, lq_l, lq_r, if_true, if_false, ite_not, true_and, and_true, hC.1, c_81]
        rw [hg1]
        simp (disch := omega) only [if_pos, if_neg, o_b1_s, o_b2_s, o_b3_s, o_b4_s, o_s1_s, o_s2_l, o_s2_r, o_g_t, i_add, i_mul, i_sub, i_and, i_or, i_xor, i_sd, i_shl, Nat.one_mul, i_eq, i_lt, i_le, i_n0, i_0le, i_e0, i_0lt, i_le0, i_cl, bz_0, wp_s, lq_l, lq_r, if_true, if_false, ite_not, true_and, and_true, nI_l, j0_lit, j_ceq, pk_lEQ, o_nzJ_of, pk_lDiv]
        split <;> rfl
      · rw [if_neg hy]
        refine ⟨_, ?_, rfl⟩
        by_cases h1 : y < 0
        · rw [if_pos h1]
        · rw [if_neg h1, if_neg (fun h2 => hy ⟨Int32.not_lt.1 h1, h2⟩)]
    · rw [if_neg hx, if_neg hx]
      exact ⟨_, rfl, rfl⟩
  · rw [c_96o hs, o_b1_s, if_pos rfl, if_neg hs]
    exact ⟨_, rfl, rfl⟩
