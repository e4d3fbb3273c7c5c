/-! Call walk; the least base; the elements of a set; the next lot. -/
def nx (x : Nat) : Nat := (25173 * x + 13849) % 65536
theorem nx_lt (x : Nat) : nx x < 65536 := Nat.mod_lt _ (by decide)
theorem c_184 {x : Nat} : m_184 (nI x) = some (nI (nx x)) := by
  unfold m_184 nx
  rw [i_mul, i_add, i_and, show (25173 * x + 13849) &&& 65535 = (25173 * x + 13849) % 65536 from Nat.and_two_pow_sub_one_eq_mod (25173 * x + 13849) 16]
theorem o_nz_of {m : Nat} (h : 0 < m) (h2 : m < 2147483648) : o_nzI (nI m) = true := decide_eq_true (nI_ne0 h h2)
theorem s_322 {I : ai_I} {t L x d : Nat} (hx : x < 65536) (h : I 76 1040 = nI x) (hd : 0 < d) (hd2 : d < 100) : m_322 75 (nI d) I (Rc t) (Gc L) = some (nI (nx x % d), va_up I 76 (va_up (I 76) 1040 (nI (nx x)))) := by
  have h9 := nx_lt x
  unfold m_322
  rw [r_75_0, g_76 (by decide), o_g_t, o_g_t, i_cl (by decide), h, i_mul, i_add, pk_rem (by omega) (by decide) (by decide), o_b1_s, o_g_t, o_nz_of hd (by omega), o_g_t, up_eq, up_eq, show (25173 * x + 13849) % 65536 = nx x from rfl, pk_rem (by omega) hd (by omega)]
/-- the element of a set that has m others ahead -/
def el (a m : Nat) : Nat := ((List.range 8).filter (fun e => a.testBit e)).getD m 0
theorem el_187 : ∀ a, a < 256 → ∀ m, m < 8 → m < pc a → lp (fun s => m_187_b22 (nI a) s.1 s.2) o_N (nI m, nI 0) = some (Sum.inl (nI (el a m))) := by decide +kernel
theorem el_323 : ∀ a, a < 256 → ∀ m, m < 8 → m < pc a → m_323 (nI a) (nI m) = some (nI (el a m)) := by decide +kernel
theorem el_lt : ∀ a, a < 256 → ∀ m, m < 8 → m < pc a → el a m < 8 := by decide +kernel
theorem pc_sd : ∀ n, n < 9 → ∀ a, a < 256 → a < 2 ^ n → pc (sd (2 ^ n - 1) a) = n - pc a := by decide +kernel
theorem c_187 {a x : Nat} (ha : a < 256) (hp : 0 < pc a) (hx : x < 2147483648) : m_187 (nI a) (nI x) = some (nI (el a (x % pc a))) := by
  have h8 := pc_le a
  have hm := Nat.mod_lt x hp
  unfold m_187
  rw [s_331 ha, o_b1_s, q_e0 (by omega), if_neg (by omega), q_p0 hx, o_nz_of hp (by omega), o_g_t, pk_rem hx hp (by omega), o_b1_s, el_187 a ha _ (by omega) hm, o_s2_l]
  rfl
theorem ls_first (p : Nat → Bool) : ∀ l : List Nat, 0 < (l.filter p).length → ls (ρ := Int32) (fun i a => if p i = true then .inr (nI i) else .inl a) l () = .inr (nI ((l.filter p).getD 0 0))
  | [], h => absurd h (Nat.lt_irrefl 0)
  | x :: l, h => by
    unfold ls
    by_cases hx : p x = true
    · rw [if_pos hx, List.filter_cons_of_pos hx]
      rfl
    · rw [if_neg hx]
      rw [List.filter_cons_of_neg hx] at h ⊢
      exact ls_first p l h
/-- the least base -/
theorem s_205 {I : ai_I} {t L s n r : Nat} (hs : s < 12) (hW : WF n r (FV I s)) : m_205 75 (nI s) I (Rc t) (Gc L) = some (nI ((BL (FV I s)).getD 0 0)) := by
  have hpos := BL_pos hW
  obtain ⟨-, -, -, -, -, k0, hk0, hV0⟩ := hW
  unfold m_205
  have h := lp_fs_o (b := fun q => m_205_b2 75 (nI s) I (Rc t) (Gc L) q) (fun i (_ : Unit) => nI i) (fun i a => if decide (FV I s i ≠ NO) = true then .inr (nI i) else .inl a) (fun _ => nI 0) (fun i _ => ∀ j, j < i → ¬ FV I s j ≠ NO) 256 () (fun i a hi hP => by
    have key : m_205_b2 75 (nI s) I (Rc t) (Gc L) (nI i) = some (if decide (FV I s i ≠ NO) = true then .inr (nI i) else .inl (nI (i + 1))) := by
      unfold m_205_b2
      rw [s_199 hs hi, o_b1_s, q_bz, i_add, o_b1_s]
      by_cases hV : FV I s i ≠ NO
      · rw [if_pos hV, if_pos (decide_eq_true hV)]
      · rw [if_neg hV, if_neg (fun h2 => hV (of_decide_eq_true h2))]
    by_cases hV : decide (FV I s i ≠ NO) = true
    · refine ⟨fun a2 e => ?_, fun r e => ?_⟩
      · rw [if_pos hV] at e
        cases e
      · rw [if_pos hV] at e
        cases e
        exact key.trans (by rw [if_pos hV])
    · refine ⟨fun a2 e => ⟨fun j hj => ?_, ?_⟩, fun r e => ?_⟩
      · by_cases hji : j = i
        · rw [hji]
          exact fun h3 => hV (decide_eq_true h3)
        · exact hP j (by omega)
      · exact key.trans (by rw [if_neg hV])
      · rw [if_neg hV] at e
        cases e) (fun a hP => absurd hV0 (hP k0 hk0)) (fun j hj => absurd hj (Nat.not_lt_zero _)) (by decide)
  rw [ls_first (fun i => decide (FV I s i ≠ NO)) (List.range 256) hpos] at h
  show o_s1 (lp (fun q => m_205_b2 75 (nI s) I (Rc t) (Gc L) q) o_N (nI 0)) _ = _
  rw [h, o_s1_s]
  rfl
/-- one step of a walk: lot, base, how often -/
def wst (V : Nat → Int32) (n : Nat) (a : Nat × Nat × Nat) : Nat × Nat × Nat :=
  if V ((a.2.1 ^^^ 2 ^ el a.2.1 (nx a.1 % pc a.2.1)) ^^^ 2 ^ el (sd (2 ^ n - 1) a.2.1) (nx (nx a.1) % pc (sd (2 ^ n - 1) a.2.1))) ≠ NO then (nx (nx a.1), (a.2.1 ^^^ 2 ^ el a.2.1 (nx a.1 % pc a.2.1)) ^^^ 2 ^ el (sd (2 ^ n - 1) a.2.1) (nx (nx a.1) % pc (sd (2 ^ n - 1) a.2.1)), a.2.2 + 1) else (nx (nx a.1), a.2.1, a.2.2)
def wP (V : Nat → Int32) (k : Nat) (a : Nat × Nat × Nat) : Prop := a.1 < 65536 ∧ a.2.1 < 256 ∧ V a.2.1 ≠ NO ∧ a.2.2 ≤ k
theorem wst_facts {V : Nat → Int32} {n r k : Nat} {a : Nat × Nat × Nat} (hW : WF n r V) (h : wP V k a) : pc a.2.1 = r ∧ pc (sd (2 ^ n - 1) a.2.1) = n - r ∧ sd (2 ^ n - 1) a.2.1 < 256 ∧ el a.2.1 (nx a.1 % pc a.2.1) < 8 ∧ el (sd (2 ^ n - 1) a.2.1) (nx (nx a.1) % pc (sd (2 ^ n - 1) a.2.1)) < 8 ∧ (a.2.1 ^^^ 2 ^ el a.2.1 (nx a.1 % pc a.2.1)) < 256 ∧ ((a.2.1 ^^^ 2 ^ el a.2.1 (nx a.1 % pc a.2.1)) ^^^ 2 ^ el (sd (2 ^ n - 1) a.2.1) (nx (nx a.1) % pc (sd (2 ^ n - 1) a.2.1))) < 256 := by
  obtain ⟨h1, h2, h3, h4⟩ := h
  obtain ⟨w1, w2, w3, w4, w5, -⟩ := hW
  obtain ⟨e1, e2, -⟩ := w5 _ h2 h3
  have e3 := pc_sd n (by omega) _ h2 e1
  have h8 := p2_le w2
  have h0 := Nat.two_pow_pos n
  have hs : sd (2 ^ n - 1) a.2.1 < 256 := sd_lt (by omega)
  have e4 := pc_le a.2.1
  have e5 := pc_le (sd (2 ^ n - 1) a.2.1)
  have l1 := el_lt _ h2 (nx a.1 % pc a.2.1) (by have := Nat.mod_lt (nx a.1) (show 0 < pc a.2.1 by omega); omega) (Nat.mod_lt _ (by omega))
  have l2 := el_lt _ hs (nx (nx a.1) % pc (sd (2 ^ n - 1) a.2.1)) (by have := Nat.mod_lt (nx (nx a.1)) (show 0 < pc (sd (2 ^ n - 1) a.2.1) by omega); omega) (Nat.mod_lt _ (by omega))
  have x1 := bit_xor_lt h2 (p2_lt l1)
  exact ⟨e2, by omega, hs, l1, l2, x1, bit_xor_lt x1 (p2_lt l2)⟩
theorem wst_P {V : Nat → Int32} {n r k : Nat} {a : Nat × Nat × Nat} (hW : WF n r V) (h : wP V k a) : wP V (k + 1) (wst V n a) := by
  obtain ⟨f1, f2, f3, f4, f5, f6, f7⟩ := wst_facts hW h
  obtain ⟨h1, h2, h3, h4⟩ := h
  unfold wst
  split
  · rename_i hc
    exact ⟨nx_lt _, f7, hc, by show a.2.2 + 1 ≤ k + 1; omega⟩
  · exact ⟨nx_lt _, h2, h3, by show a.2.2 ≤ k + 1; omega⟩
theorem c_walk {I : ai_I} {t L v n r m x0 b0 : Nat} {V : Nat → Int32} (hv : v ∈ VC) (hW : WF n r V) (hC : CS I v n r V) (hm : m ≤ 1000) (hP0 : wP V 0 (x0, b0, 0)) : lp (fun q => m_175_b62 (nI m) I (Rc t) (Gc L) v q.1 q.2.1 q.2.2.1 q.2.2.2) o_N (nI x0, nI b0, nI 0, nI 0) = some (nI (fd (fun _ a => wst V n a) (List.range m) (x0, b0, 0)).2.1, nI (fd (fun _ a => wst V n a) (List.range m) (x0, b0, 0)).2.2) := by
  have b1 := hW.2.1
  have b3 := hW.2.2.1
  have b4 := hW.2.2.2.1
  exact lp_fd (b := fun q => m_175_b62 (nI m) I (Rc t) (Gc L) v q.1 q.2.1 q.2.2.1 q.2.2.2) (fun i (a : Nat × Nat × Nat) => (nI a.1, nI a.2.1, nI a.2.2, nI i)) (fun _ a => wst V n a) (fun a => (nI a.2.1, nI a.2.2)) (fun i a => wP V i a) m (x0, b0, 0) (fun i a hi ha => by
    obtain ⟨f1, f2, f3, f4, f5, f6, f7⟩ := wst_facts hW ha
    obtain ⟨h1, h2, h3, h4⟩ := ha
    refine ⟨wst_P hW ⟨h1, h2, h3, h4⟩, ?_⟩
    have q1 := nx_lt a.1
    have q2 := nx_lt (nx a.1)
    show m_175_b62 (nI m) I (Rc t) (Gc L) v (nI a.1) (nI a.2.1) (nI a.2.2) (nI i) = _
    unfold m_175_b62
    rw [q_leF (by omega) hi, c_184, o_b1_s, c_187 h2 (by omega) (by omega), o_b1_s, c_184, o_b1_s, c_119 b1 hC.1, o_b1_s, i_sd, c_187 f3 (by omega) (by omega), o_b1_s, i_shl (by decide) (by omega), i_shl (by decide) (by omega), Nat.one_mul, Nat.one_mul, i_xor, i_xor, o_b1_s, c_122 hv hW hC f7, o_b1_s, q_bz]
    simp only [i_add, o_b1_s]
    unfold wst
    split <;> rfl) (fun a ha => by
    show m_175_b62 (nI m) I (Rc t) (Gc L) v (nI a.1) (nI a.2.1) (nI a.2.2) (nI m) = _
    unfold m_175_b62
    rw [q_leT (by omega) (Nat.le_refl _)]) hP0 (by omega)
/-- the reference's memory in a walk: the lot alone has changed -/
def WK (I J : ai_I) (x : Nat) : Prop := (∀ c, ¬ c = 76 → J c = I c) ∧ (∀ j, ¬ j = 1040 → J 76 j = I 76 j) ∧ J 76 1040 = nI x
theorem WK_up {I J : ai_I} {x : Nat} (y : Nat) (h : WK I J x) : WK I (va_up J 76 (va_up (J 76) 1040 (nI y))) y := ⟨fun c hc => by rw [up_ne hc]; exact h.1 c hc, fun j hj => by rw [up_eq, up_ne hj]; exact h.2.1 j hj, by rw [up_eq, up_eq]⟩
theorem WK_FV {I J : ai_I} {x k j : Nat} (h : WK I J x) (hk : k < 4) (hj : j < 256) : FV J k j = FV I k j := h.2.1 _ (by omega)
theorem s_walk {I : ai_I} {t L k n r m x0 b0 : Nat} (hk : k < 4) (hW : WF n r (FV I k)) (hI : I 76 (258 * k) = nI n) (hIr : I 76 (258 * k + 1) = nI r) (hm : m ≤ 1000) (hP0 : wP (FV I k) 0 (x0, b0, 0)) (hx : I 76 1040 = nI x0) : ∃ J y, WK I J y ∧ lp (fun q => m_324_b54 75 (nI k) (nI m) (Rc t) (Gc L) q.1 q.2.1 q.2.2.1 q.2.2.2) o_N (nI b0, nI 0, nI 0, I) = some (nI (fd (fun _ a => wst (FV I k) n a) (List.range m) (x0, b0, 0)).2.1, nI (fd (fun _ a => wst (FV I k) n a) (List.range m) (x0, b0, 0)).2.2, J) := by
  have b1 := hW.2.1
  have b3 := hW.2.2.1
  have b4 := hW.2.2.2.1
  obtain ⟨A, ⟨a0, a1, a2⟩, hr⟩ := lp_ex (b := fun q => m_324_b54 75 (nI k) (nI m) (Rc t) (Gc L) q.1 q.2.1 q.2.2.1 q.2.2.2) (fun i (a : (Nat × Nat × Nat) × ai_I) => (nI a.1.2.1, nI a.1.2.2, nI i, a.2)) (fun a => (nI a.1.2.1, nI a.1.2.2, a.2)) (fun i a => wP (FV I k) i a.1 ∧ a.1 = fd (fun _ b => wst (FV I k) n b) (List.range i) (x0, b0, 0) ∧ WK I a.2 a.1.1) m (fun i a hi ha => by
    obtain ⟨a0, a1, a2⟩ := ha
    obtain ⟨f1, f2, f3, f4, f5, f6, f7⟩ := wst_facts hW a0
    have p1 := wst_P hW a0
    obtain ⟨h1, h2, h3, h4⟩ := a0
    have q1 := nx_lt a.1.1
    have w1 := WK_up (nx a.1.1) a2
    have w2 := WK_up (nx (nx a.1.1)) w1
    have m1 : nx a.1.1 % r < r := Nat.mod_lt _ (by omega)
    have m2 : nx (nx a.1.1) % (n - r) < n - r := Nat.mod_lt _ (by omega)
    refine ⟨(wst (FV I k) n a.1, va_up (va_up a.2 76 (va_up (a.2 76) 1040 (nI (nx a.1.1)))) 76 (va_up ((va_up a.2 76 (va_up (a.2 76) 1040 (nI (nx a.1.1)))) 76) 1040 (nI (nx (nx a.1.1))))), ⟨p1, ?_, ?_⟩, ?_⟩
    · rw [List.range_succ, fd_append, ← a1]
      rfl
    · have e : (wst (FV I k) n a.1).1 = nx (nx a.1.1) := by
        unfold wst
        split <;> rfl
      show WK I _ (wst (FV I k) n a.1).1
      rw [e]
      exact w2
    · show m_324_b54 75 (nI k) (nI m) (Rc t) (Gc L) (nI a.1.2.1) (nI a.1.2.2) (nI i) a.2 = _
      unfold m_324_b54
      rw [q_leF (by omega) hi, s_196 (by omega), o_b1_s, (a2.2.1 (258 * k + 1) (by omega)).trans hIr, s_322 h1 a2.2.2 (by omega) (by omega), o_b2_s, el_323 _ h2 _ (by omega) (by omega), o_b1_s, s_197 (by omega) b1 ((w1.2.1 (258 * k) (by omega)).trans hI), o_b1_s, s_195 (by omega), o_b1_s, s_196 (by omega), o_b1_s, (w1.2.1 (258 * k) (by omega)).trans hI, (w1.2.1 (258 * k + 1) (by omega)).trans hIr, i_sub (by omega), s_322 q1 w1.2.2 (by omega) (by omega), o_b2_s, i_sd, el_323 _ f3 _ (by omega) (by omega), o_b1_s, i_shl (by decide) (by rw [f1] at f4; omega), i_shl (by decide) (by rw [f2] at f5; omega), Nat.one_mul, Nat.one_mul, i_xor, i_xor, o_b1_s, s_199 (by omega) (by rw [f1, f2] at f7; exact f7), o_b1_s, q_bz, WK_FV w2 hk (by rw [f1, f2] at f7; exact f7)]
      simp only [i_add, o_b1_s]
      unfold wst
      rw [f1, f2]
      split <;> rfl) (fun a ha => by
    show m_324_b54 75 (nI k) (nI m) (Rc t) (Gc L) (nI a.1.2.1) (nI a.1.2.2) (nI m) a.2 = _
    unfold m_324_b54
    rw [q_leT (by omega) (Nat.le_refl _)]) m 0 ((x0, b0, 0), I) o_N (by omega) ⟨hP0, rfl, fun _ _ => rfl, fun _ _ => rfl, hx⟩ (show m < 2000000 by omega)
  refine ⟨A.2, A.1.1, a2, ?_⟩
  rw [← a1]
  exact hr
theorem op_walk {I : ai_I} {t L : Nat} (h : ST I) (s x y : Int32) : OPb I (m_175 1 s x y I (Rc t) (Gc L)) (m_324 75 s x y I (Rc t) (Gc L)) := by
  have j1 : (1 : Int64) = (nI 1).toInt64 ∧ (1000 : Int64) = (nI 1000).toInt64 := by decide +kernel
  rcases x_cases s (n := 3) (by decide) with ⟨k, hk, rfl⟩ | hs
  · obtain ⟨n, r, hW, hC, hI, hIr⟩ := h.1 k (by omega)
    obtain ⟨x0, hx0, g1, g2⟩ := h.2.2.2.1
    have hv := vc_s (s := k) (by omega)
    have hpos := BL_pos hW
    have hb0 := BL_at hpos
    have hP0 : wP (FV I k) 0 (x0, (BL (FV I k)).getD 0 0, 0) := ⟨hx0, hb0.1, hb0.2, Nat.le_refl _⟩
    have ec : m_175 1 (nI k) x y I (Rc t) (Gc L) = (if x < nI 1 then some (-1) else if nI 1000 < x then some (-1) else if y < 0 then some (-1) else if y ≤ nI 1 then o_s1 (lp (fun q => m_175_b62 x I (Rc t) (Gc L) (6 + 4 * k) q.1 q.2.1 q.2.2.1 q.2.2.2) o_N (nI x0, nI ((BL (FV I k)).getD 0 0), nI 0, nI 0)) (fun q => m_175_x62_145 y q.1 q.2) else some (-1)) := by
      unfold m_175
      rw [r_1_0, k_2, o_g_t, c_96 (by omega), o_b1_s, if_neg (by omega), g1, o_b1_s, v_kd hv, o_g_t, v_rb hv, v_gb hv (by decide), o_g_t, i_cl (by decide), hC.2.2.2.2.2 0 hpos, o_b1_s]
    have er : m_324 75 (nI k) x y I (Rc t) (Gc L) = (if nI 1 ≤ x ∧ x ≤ nI 1000 then (if nI 0 ≤ y ∧ y ≤ nI 1 then o_s1 (lp (fun q => m_324_b54 75 (nI k) x (Rc t) (Gc L) q.1 q.2.1 q.2.2.1 q.2.2.2) o_N (nI ((BL (FV I k)).getD 0 0), nI 0, nI 0, I)) (fun q => m_324_x54_149 75 y (Rc t) (Gc L) (nI x0) q.1 q.2.1 q.2.2) else some (-1, I)) else some (-1, I)) := by
      unfold m_324
      rw [s_200, o_b1_s, q_bz, if_pos (nI_in03 hk), j1.1, j1.2, j_lit.2.1, s_189i, o_b1_s, q_bz, s_189i, o_b1_s, q_bz, r_75_0, g_76 (by decide), o_g_t, i_cl (by decide), g2, o_b1_s, s_205 (by omega) hW, o_b1_s]
    rw [ec, er]
    by_cases hx : nI 1 ≤ x ∧ x ≤ nI 1000
    · obtain ⟨m, hm, rfl⟩ : ∃ m, m ≤ 1000 ∧ x = nI m := nI_of2 (nI_toInt (by decide)) (fun h1 => Int32.not_le.2 h1 (Int32.le_trans (by decide) hx.1)) hx.2
      rw [if_neg (Int32.not_lt.2 hx.1), if_neg (Int32.not_lt.2 hx.2), if_pos hx]
      rcases x_cases y (n := 1) (by decide) with ⟨w, hw, rfl⟩ | hy
      · obtain ⟨J, z, hJ, hr⟩ := s_walk (t := t) (L := L) (show k < 4 by omega) hW hI hIr hm hP0 g2
        rw [q_n0 (by omega), q_leT (by decide) hw, c_walk hv hW hC hm hP0, o_s1_s, if_pos (show nI 0 ≤ nI w ∧ nI w ≤ nI 1 from ⟨nI_le (by omega) (by omega), nI_le hw (by decide)⟩), hr, o_s1_s]
        unfold m_175_x62_145 m_324_x54_149
        rw [r_75_0, g_76 (by decide), o_g_t, o_b1_s, i_cl (by decide)]
        have hS : SAME I (va_up J 76 (va_up (J 76) 1040 (nI x0))) := ⟨fun c hc => by rw [up_ne (by omega)]; exact hJ.1 c (by omega), fun j hj => by
          rw [up_eq]
          by_cases hj2 : j = 1040
          · rw [hj2, up_eq, g2]
          · rw [up_ne hj2]
            exact hJ.2.1 j hj2, by rw [up_ne (by decide)]; exact hJ.1 77 (by decide), by rw [up_ne (by decide), hJ.1 75 (by decide)], by rw [up_ne (by decide), hJ.1 75 (by decide)], by rw [up_ne (by decide)]; exact hJ.1 1999 (by decide)⟩
        by_cases hw0 : nI w = 0
        · rw [if_pos hw0, if_pos hw0]
          exact ⟨_, _, rfl, rfl, hS⟩
        · rw [if_neg hw0, if_neg hw0]
          exact ⟨_, _, rfl, rfl, hS⟩
      · rw [if_neg hy]
        refine ⟨-1, I, ?_, rfl, SAME_rf⟩
        by_cases h1 : y < 0
        · rw [if_pos h1]
        · rw [if_neg h1, if_neg (fun h2 => hy ⟨Int32.not_lt.1 h1, h2⟩)]
    · rw [if_neg hx]
      refine ⟨-1, I, ?_, rfl, SAME_rf⟩
      by_cases h1 : x < nI 1
      · rw [if_pos h1]
      · rw [if_neg h1]
        by_cases h2 : nI 1000 < x
        · rw [if_pos h2]
        · exact absurd ⟨Int32.not_lt.1 h1, Int32.not_lt.1 h2⟩ hx
  · unfold m_175 m_324
    rw [r_1_0, k_2, o_g_t, s_200, o_b1_s, q_bz, c_96o hs, o_b1_s, if_pos rfl, if_neg hs]
    exact ⟨_, I, rfl, rfl, SAME_rf⟩
