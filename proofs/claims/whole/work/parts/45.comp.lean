/-! Calls component, game. -/
/-- one less, as a count goes down -/
def dwn (m : Nat) : Int32 := nI m + (-1)
theorem dwn_s (m : Nat) : dwn (m + 1) = nI m := i_dec m
theorem dwn_0 : dwn 0 = -1 := by decide
theorem dwn_p {m : Nat} (h : 0 < m) : dwn m = nI (m - 1) := by
  obtain ⟨k, rfl⟩ : ∃ k, m = k + 1 := ⟨m - 1, by omega⟩
  exact dwn_s k
theorem dwn_lt {m : Nat} (h : m < 2147483648) : dwn m < nI m := by
  by_cases h0 : m = 0
  · subst h0
    decide
  · rw [dwn_p (by omega)]
    exact nI_lt (by omega) h
theorem i_m1 (m : Nat) : nI m + (-1) = dwn m := rfl
theorem wp_lpd {σ ρ : Type} {b : σ → Option (σ ⊕ ρ)} {Q : ρ → Prop} {s0 : σ} (P : Nat → σ → Prop) (a N : Nat) (ha : a ≤ N) (hN : N < 2000000) (h0 : P N s0)
    (hs : ∀ m s, a ≤ m → m < N → P (m + 1) s → wp (b s) (lq (P m) Q)) (he : ∀ s, P a s → wp (b s) (lq (fun _ => False) Q)) : wp (lp b o_N s0) Q := by
  refine wp_lp (fun i s => i ≤ N - a ∧ P (N - i) s) 0 (N - a) (Nat.zero_le _) (by omega) ⟨Nat.zero_le _, h0⟩ ?_ ?_
  · rintro i s hi ⟨h1, h2⟩
    rw [show N - i = N - (i + 1) + 1 by omega] at h2
    refine wp_mono (hs _ _ (by omega) (by omega) h2) ?_
    intro q hq
    cases q with
    | inl s2 => exact ⟨by omega, hq⟩
    | inr r => exact hq
  · rintro s ⟨h1, h2⟩
    rw [show N - (N - a) = a by omega] at h2
    exact he _ h2
/-- what hangs together: one set, one round, so many rounds -/
def cst (V : Nat → Int32) (set m : Nat) : Nat := if set &&& m = 0 then m else if circ V set = true then m ||| set else m
def crd (V : Nat → Int32) (N m : Nat) : Nat := fd (cst V) (List.range N) m
def cit (V : Nat → Int32) (N m : Nat) : Nat → Nat
  | 0 => m
  | k + 1 => crd V N (cit V N m k)
theorem crd_succ (V : Nat → Int32) (N m : Nat) : crd V (N + 1) m = cst V N (crd V N m) := by
  unfold crd
  rw [List.range_succ, fd_append]
  rfl
theorem cst_sub (V : Nat → Int32) (set m : Nat) : m &&& cst V set m = m := by
  unfold cst
  split
  · exact Nat.and_self m
  · split
    · apply Nat.eq_of_testBit_eq
      intro i
      rw [Nat.testBit_and, Nat.testBit_or]
      cases m.testBit i <;> rfl
    · exact Nat.and_self m
theorem crd_sub (V : Nat → Int32) (m : Nat) : ∀ N, m &&& crd V N m = m
  | 0 => Nat.and_self m
  | N + 1 => by
    have ih := crd_sub V m N
    have h := cst_sub V N (crd V N m)
    rw [crd_succ]
    have h2 : m &&& cst V N (crd V N m) = (m &&& crd V N m) &&& cst V N (crd V N m) := by rw [ih]
    rw [h2, Nat.and_assoc, h, ih]
theorem crd_lt {V : Nat → Int32} {n m : Nat} (hm : m < 2 ^ n) : ∀ N, N ≤ 2 ^ n → crd V N m < 2 ^ n
  | 0, _ => hm
  | N + 1, h => by
    have ih := crd_lt (V := V) hm N (by omega)
    rw [crd_succ]
    unfold cst
    split
    · exact ih
    · split
      · exact Nat.or_lt_two_pow ih (by omega)
      · exact ih
theorem cit_lt {V : Nat → Int32} {n m : Nat} (hm : m < 2 ^ n) : ∀ k, cit V (2 ^ n) m k < 2 ^ n
  | 0 => hm
  | k + 1 => crd_lt (cit_lt hm k) _ (Nat.le_refl _)
theorem pc_sub : ∀ a, a < 256 → ∀ b, b < 256 → a &&& b = a → a = b ∨ pc a < pc b := by decide +kernel
theorem pc_n : ∀ n, n < 9 → ∀ a, a < 256 → a < 2 ^ n → pc a ≤ n := by decide +kernel
theorem cit_gr {V : Nat → Int32} {n m : Nat} (hn : n ≤ 8) (hm : m < 2 ^ n) (h1 : 1 ≤ pc m) : ∀ k, crd V (2 ^ n) (cit V (2 ^ n) m k) = cit V (2 ^ n) m k ∨ k + 1 ≤ pc (cit V (2 ^ n) m k)
  | 0 => Or.inr h1
  | k + 1 => by
    have h8 := p2_le hn
    have a1 := cit_lt (V := V) hm k
    have a2 := cit_lt (V := V) hm (k + 1)
    show crd V (2 ^ n) (crd V (2 ^ n) (cit V (2 ^ n) m k)) = crd V (2 ^ n) (cit V (2 ^ n) m k) ∨ k + 1 + 1 ≤ pc (crd V (2 ^ n) (cit V (2 ^ n) m k))
    rcases cit_gr hn hm h1 k with h | h
    · rw [h]
      exact Or.inl h
    · have h3 : crd V (2 ^ n) (cit V (2 ^ n) m k) < 2 ^ n := a2
      rcases pc_sub _ (by omega) _ (by omega) (crd_sub V (cit V (2 ^ n) m k) (2 ^ n)) with h2 | h2
      · rw [← h2]
        exact Or.inl h2.symm
      · exact Or.inr (by omega)
theorem cit_n {V : Nat → Int32} {n m : Nat} (hn : n ≤ 8) (hm : m < 2 ^ n) (h1 : 1 ≤ pc m) : ∀ j, cit V (2 ^ n) m (n + j) = cit V (2 ^ n) m n
  | 0 => rfl
  | j + 1 => by
    have h8 := p2_le hn
    have a1 := cit_lt (V := V) hm n
    have a2 := pc_n n (by omega) (cit V (2 ^ n) m n) (by omega) a1
    have h : crd V (2 ^ n) (cit V (2 ^ n) m n) = cit V (2 ^ n) m n := by
      rcases cit_gr hn hm h1 n with h | h
      · exact h
      · omega
    show crd V (2 ^ n) (cit V (2 ^ n) m (n + j)) = cit V (2 ^ n) m n
    rw [cit_n hn hm h1 j, h]
theorem el_297 : ∀ a, a < 256 → 0 < a → m_297_x25_79 (nI a) = some (nI (el a 0)) := by decide +kernel
theorem pc_2 : ∀ e, e < 8 → pc (2 ^ e) = 1 := by decide
theorem pc_ne : ∀ a, a < 256 → 0 < a → 0 < pc a := by decide +kernel
theorem cit_pos {V : Nat → Int32} {n e : Nat} (hn : n ≤ 8) (he : e < n) (k : Nat) : 0 < cit V (2 ^ n) (2 ^ e) k := by
  have h8 := p2_le hn
  have hp : 2 ^ e < 2 ^ n := Nat.pow_lt_pow_right (by decide) he
  have h0 := Nat.two_pow_pos e
  have key : ∀ k, 2 ^ e &&& cit V (2 ^ n) (2 ^ e) k = 2 ^ e := by
    intro k
    induction k with
    | zero => exact Nat.and_self _
    | succ k ih =>
      have h := crd_sub V (cit V (2 ^ n) (2 ^ e) k) (2 ^ n)
      show 2 ^ e &&& crd V (2 ^ n) (cit V (2 ^ n) (2 ^ e) k) = 2 ^ e
      have h2 : 2 ^ e &&& crd V (2 ^ n) (cit V (2 ^ n) (2 ^ e) k) = (2 ^ e &&& cit V (2 ^ n) (2 ^ e) k) &&& crd V (2 ^ n) (cit V (2 ^ n) (2 ^ e) k) := by rw [ih]
      rw [h2, Nat.and_assoc, h, ih]
  have h := key k
  apply Nat.pos_of_ne_zero
  intro hz
  rw [hz, Nat.and_zero] at h
  omega
theorem c_76 {I : ai_I} {t L v n r e : Nat} {V : Nat → Int32} (hv : v ∈ VC) (hW : WF n r V) (h : CS I v n r V) (he : e < n) : wp (m_76 v (nI e) I (Rc t) (Gc L)) (fun r => r = nI (el (cit V (2 ^ n) (2 ^ e) n) 0)) := by
  have hn := hW.2.1
  have h8 := p2_le hn
  have hp : 2 ^ e < 2 ^ n := Nat.pow_lt_pow_right (by decide) he
  simp (disch := omega) only [o_b1_s, o_b2_s, o_b3_s, o_b4_s, o_s1_s, o_s2_l, o_s2_r, o_g_t, i_add, i_mul, i_sub, i_and, i_or, i_xor, i_sd, i_shl, Nat.one_mul, i_eq, i_lt, i_le, i_n0, i_0le, i_e0, i_0lt, i_le0, i_cl, bz_0, wp_s, lq_l, lq_r, if_true, if_false, ite_not, true_and, and_true, m_76]
  refine wp_s1 (wp_lp (fun i s => s = (nI (cit V (2 ^ n) (2 ^ e) i), nI i)) 0 n (Nat.zero_le _) (by omega) rfl ?_ ?_)
  · rintro i _ hi rfl
    have hc := cit_lt (V := V) hp i
    simp (disch := omega) only [if_pos, if_neg, o_b1_s, o_b2_s, o_b3_s, o_b4_s, o_s1_s, o_s2_l, o_s2_r, o_g_t, i_add, i_mul, i_sub, i_and, i_or, i_xor, i_sd, i_shl, Nat.one_mul, i_eq, i_lt, i_le, i_n0, i_0le, i_e0, i_0lt, i_le0, i_cl, bz_0, wp_s, lq_l, lq_r, if_true, if_false, ite_not, true_and, and_true, m_76_b6, v_kd hv, h.1]
    refine wp_s1 (wp_lp (fun j s => s = (nI (crd V j (cit V (2 ^ n) (2 ^ e) i)), nI j)) 0 (2 ^ n) (Nat.zero_le _) (by omega) rfl ?_ ?_)
    · rintro j _ hj rfl
      have hd := crd_lt (V := V) hc j (by omega)
      have ha : j &&& crd V j (cit V (2 ^ n) (2 ^ e) i) < 256 := bit_and_lt (by omega)
      simp (disch := omega) only [if_pos, if_neg, o_b1_s, o_b2_s, o_b3_s, o_b4_s, o_s1_s, o_s2_l, o_s2_r, o_g_t, i_add, i_mul, i_sub, i_and, i_or, i_xor, i_sd, i_shl, Nat.one_mul, i_eq, i_lt, i_le, i_n0, i_0le, i_e0, i_0lt, i_le0, i_cl, bz_0, wp_s, lq_l, lq_r, if_true, if_false, ite_not, true_and, and_true, m_76_b17, c_118 hn h.1, c_73 hv hW h]
      rw [crd_succ, cst]
      split
      · simp (disch := omega) only [o_b1_s, o_b2_s, o_b3_s, o_b4_s, o_s1_s, o_s2_l, o_s2_r, o_g_t, i_add, i_mul, i_sub, i_and, i_or, i_xor, i_sd, i_shl, Nat.one_mul, i_eq, i_lt, i_le, i_n0, i_0le, i_e0, i_0lt, i_le0, i_cl, bz_0, wp_s, lq_l, lq_r, if_true, if_false, ite_not, true_and, and_true]
      · split <;> simp (disch := omega) only [o_b1_s, o_b2_s, o_b3_s, o_b4_s, o_s1_s, o_s2_l, o_s2_r, o_g_t, i_add, i_mul, i_sub, i_and, i_or, i_xor, i_sd, i_shl, Nat.one_mul, i_eq, i_lt, i_le, i_n0, i_0le, i_e0, i_0lt, i_le0, i_cl, bz_0, wp_s, lq_l, lq_r, if_true, if_false, ite_not, true_and, and_true]
    · rintro _ rfl
      simp (disch := omega) only [if_pos, if_neg, o_b1_s, o_b2_s, o_b3_s, o_b4_s, o_s1_s, o_s2_l, o_s2_r, o_g_t, i_add, i_mul, i_sub, i_and, i_or, i_xor, i_sd, i_shl, Nat.one_mul, i_eq, i_lt, i_le, i_n0, i_0le, i_e0, i_0lt, i_le0, i_cl, bz_0, wp_s, lq_l, lq_r, if_true, if_false, ite_not, true_and, and_true, m_76_b17, c_118 hn h.1, m_76_x17_53]
      rfl
  · rintro _ rfl
    have hc := cit_lt (V := V) hp n
    have hz := cit_pos (V := V) hn he n
    simp (disch := omega) only [if_pos, if_neg, o_b1_s, o_b2_s, o_b3_s, o_b4_s, o_s1_s, o_s2_l, o_s2_r, o_g_t, i_add, i_mul, i_sub, i_and, i_or, i_xor, i_sd, i_shl, Nat.one_mul, i_eq, i_lt, i_le, i_n0, i_0le, i_e0, i_0lt, i_le0, i_cl, bz_0, wp_s, lq_l, lq_r, if_true, if_false, ite_not, true_and, and_true, m_76_b6, v_kd hv, h.1, m_76_x6_59]
    have hpc := pc_ne _ (show cit V (2 ^ n) (2 ^ e) n < 256 by omega) hz
    simp (disch := omega) only [o_b1_s, o_b2_s, o_b3_s, o_b4_s, o_s1_s, o_s2_l, o_s2_r, o_g_t, i_add, i_mul, i_sub, i_and, i_or, i_xor, i_sd, i_shl, Nat.one_mul, i_eq, i_lt, i_le, i_n0, i_0le, i_e0, i_0lt, i_le0, i_cl, bz_0, wp_s, lq_l, lq_r, if_true, if_false, ite_not, true_and, and_true, c_187, Nat.zero_mod]
theorem op_component {I : ai_I} {t L : Nat} (h : ST I) (s x : Int32) : OPr (m_162 1 s x I (Rc t) (Gc L)) (m_297 75 s x I (Rc t) (Gc L)) := by
  unfold m_162 m_297
  rw [r_1_0, k_2, o_g_t, s_200, o_b1_s, q_bz]
  rcases x_cases s (n := 3) (by decide) with ⟨k, hk, rfl⟩ | hs
  · rw [c_96 (by omega), o_b1_s, if_neg (by omega), if_pos (nI_in03 hk)]
    obtain ⟨n, r, hW, hC, hI, hIr⟩ := h.1 k (by omega)
    have hn := hW.2.1
    have hn2 := hW.1
    have h8 := p2_le hn
    have h0 := Nat.two_pow_pos n
    have hv := vc_s (s := k) (by omega)
    rw [v_kd hv, o_g_t, c_120' hn (by omega) hC.1, s_202 (by omega) hn (by omega) hI, o_b1_s, o_b1_s, q_bz, q_bz]
    rcases x_cases x (n := n - 1) (by omega) with ⟨e, he, rfl⟩ | hx
    · have hin : nI 0 ≤ nI e ∧ nI e ≤ nI (n - 1) := ⟨nI_le (by omega) (by omega), nI_le he (by omega)⟩
      have hp : 2 ^ e < 2 ^ n := Nat.pow_lt_pow_right (by decide) (by omega)
      rw [if_pos hin, if_pos hin]
      obtain ⟨a, ha, rfl⟩ := c_76 (t := t) (L := L) hv hW hC (show e < n by omega)
      have hb : wp (o_s1 (lp (fun s => m_297_b25 75 (nI k) I (Rc t) (Gc L) s.1 s.2) o_N (nI (2 ^ e), nI 0)) (fun q => m_297_x25_79 q)) (fun r => r = nI (el (cit (FV I k) (2 ^ n) (2 ^ e) 8) 0)) := by
        refine wp_s1 (wp_lp (fun i s => s = (nI (cit (FV I k) (2 ^ n) (2 ^ e) i), nI i)) 0 8 (Nat.zero_le _) (by omega) rfl ?_ ?_)
        · rintro i _ hi rfl
          have hc := cit_lt (V := FV I k) hp i
          simp (disch := omega) only [if_pos, if_neg, o_b1_s, o_b2_s, o_b3_s, o_b4_s, o_s1_s, o_s2_l, o_s2_r, o_g_t, i_add, i_mul, i_sub, i_and, i_or, i_xor, i_sd, i_shl, Nat.one_mul, i_eq, i_lt, i_le, i_n0, i_0le, i_e0, i_0lt, i_le0, i_cl, bz_0, wp_s, lq_l, lq_r, if_true, if_false, ite_not, true_and, and_true, m_297_b25]
          refine wp_s1 (wp_lp (fun j s => s = (nI (crd (FV I k) j (cit (FV I k) (2 ^ n) (2 ^ e) i)), nI j)) 0 (2 ^ n) (Nat.zero_le _) (by omega) rfl ?_ ?_)
          · rintro j _ hj rfl
            have hd := crd_lt (V := FV I k) hc j (by omega)
            have ha : j &&& crd (FV I k) j (cit (FV I k) (2 ^ n) (2 ^ e) i) < 256 := bit_and_lt (by omega)
            simp (disch := omega) only [if_pos, if_neg, o_b1_s, o_b2_s, o_b3_s, o_b4_s, o_s1_s, o_s2_l, o_s2_r, o_g_t, i_add, i_mul, i_sub, i_and, i_or, i_xor, i_sd, i_shl, Nat.one_mul, i_eq, i_lt, i_le, i_n0, i_0le, i_e0, i_0lt, i_le0, i_cl, bz_0, wp_s, lq_l, lq_r, if_true, if_false, ite_not, true_and, and_true, m_297_b35, s_197 (s := k) (by omega) hn hI, s_254]
            rw [crd_succ, cst]
            split
            · simp (disch := omega) only [o_b1_s, o_b2_s, o_b3_s, o_b4_s, o_s1_s, o_s2_l, o_s2_r, o_g_t, i_add, i_mul, i_sub, i_and, i_or, i_xor, i_sd, i_shl, Nat.one_mul, i_eq, i_lt, i_le, i_n0, i_0le, i_e0, i_0lt, i_le0, i_cl, bz_0, wp_s, lq_l, lq_r, if_true, if_false, ite_not, true_and, and_true]
            · split <;> simp (disch := omega) only [o_b1_s, o_b2_s, o_b3_s, o_b4_s, o_s1_s, o_s2_l, o_s2_r, o_g_t, i_add, i_mul, i_sub, i_and, i_or, i_xor, i_sd, i_shl, Nat.one_mul, i_eq, i_lt, i_le, i_n0, i_0le, i_e0, i_0lt, i_le0, i_cl, bz_0, wp_s, lq_l, lq_r, if_true, if_false, ite_not, true_and, and_true]
          · rintro _ rfl
            simp (disch := omega) only [if_pos, if_neg, o_b1_s, o_b2_s, o_b3_s, o_b4_s, o_s1_s, o_s2_l, o_s2_r, o_g_t, i_add, i_mul, i_sub, i_and, i_or, i_xor, i_sd, i_shl, Nat.one_mul, i_eq, i_lt, i_le, i_n0, i_0le, i_e0, i_0lt, i_le0, i_cl, bz_0, wp_s, lq_l, lq_r, if_true, if_false, ite_not, true_and, and_true, m_297_b35, s_197 (s := k) (by omega) hn hI, m_297_x35_73]
            rfl
        · rintro _ rfl
          have hc := cit_lt (V := FV I k) hp 8
          have hz := cit_pos (V := FV I k) hn (show e < n by omega) 8
          simp (disch := omega) only [if_pos, if_neg, o_b1_s, o_b2_s, o_b3_s, o_b4_s, o_s1_s, o_s2_l, o_s2_r, o_g_t, i_add, i_mul, i_sub, i_and, i_or, i_xor, i_sd, i_shl, Nat.one_mul, i_eq, i_lt, i_le, i_n0, i_0le, i_e0, i_0lt, i_le0, i_cl, bz_0, wp_s, lq_l, lq_r, if_true, if_false, ite_not, true_and, and_true, m_297_b25]
          rw [el_297 _ (by omega) hz, wp_s]
      obtain ⟨b, hb, rfl⟩ := hb
      have e8 := cit_n (V := FV I k) hn hp (by rw [pc_2 e (by omega)]; exact Nat.le_refl _) (8 - n)
      rw [show n + (8 - n) = 8 by omega] at e8
      rw [e8] at hb
      rw [ha]
      simp (disch := omega) only [o_b1_s, o_b2_s, o_b3_s, o_b4_s, o_s1_s, o_s2_l, o_s2_r, o_g_t, i_add, i_mul, i_sub, i_and, i_or, i_xor, i_sd, i_shl, Nat.one_mul, i_eq, i_lt, i_le, i_n0, i_0le, i_e0, i_0lt, i_le0, i_cl, bz_0, wp_s, lq_l, lq_r, if_true, if_false, ite_not, true_and, and_true]
      exact ⟨_, rfl, hb⟩
    · rw [if_neg hx, if_neg hx]
      exact ⟨_, rfl, rfl⟩
  · rw [c_96o hs, o_b1_s, if_pos rfl, if_neg hs]
    exact ⟨_, rfl, rfl⟩
