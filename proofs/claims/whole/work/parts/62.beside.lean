/-! Call beside. -/
def nbq (V : Nat → Int32) (a x : Nat) : Bool := decide (V x ≠ NO) && decide (nb a x)
def bsn (V : Nat → Int32) (a : Nat) : Nat := fln (nbq V a) 256
theorem bsn_le (V : Nat → Int32) (a : Nat) : bsn V a ≤ 256 := fln_le _ _
theorem nbq_t {V : Nat → Int32} {a x : Nat} (h : ¬ V x = NO) (h2 : nb a x) : nbq V a x = true := by
  unfold nbq
  rw [decide_eq_true h, decide_eq_true h2]
  rfl
theorem nbq_f {V : Nat → Int32} {a x : Nat} (h : V x = NO ∨ ¬ nb a x) : nbq V a x = false := by
  unfold nbq
  rcases h with h | h
  · rw [decide_eq_false (fun h9 => h9 h)]
    rfl
  · rw [decide_eq_false h, Bool.and_false]
def tks (V : Nat → Int32) : Nat → Nat
  | 0 => 0
  | k + 1 => if V k ≠ NO then tks V k + bsn V k else tks V k
theorem tks_le (V : Nat → Int32) : ∀ k, tks V k ≤ 256 * k
  | 0 => Nat.le_refl _
  | k + 1 => by
    have ih := tks_le V k
    have h := bsn_le V k
    rw [tks]
    split <;> omega
/-- the base that is beside most -/
def mbs (V : Nat → Int32) (b : Nat) : Prop := b ∈ BL V ∧ ∀ c, c ∈ BL V → bsn V c ≤ bsn V b ∧ (c < b → bsn V c < bsn V b)
theorem mbs_one {V : Nat → Int32} {a b : Nat} (h1 : mbs V a) (h2 : mbs V b) : a = b := by
  have e1 := h1.2 b h2.1
  have e2 := h2.2 a h1.1
  by_cases c : a < b
  · have := e2.2 c
    omega
  · by_cases c2 : b < a
    · have := e1.2 c2
      omega
    · omega
section
variable {I : ai_I} {t L v n r : Nat} {V : Nat → Int32}
theorem c_133 (hv : v ∈ VC) (hW : WF n r V) (h : CS I v n r V) {a : Nat} (ha : a ∈ BL V) : m_133 v (nI a) I (Rc t) (Gc L) = some (nI (bsn V a)) := by
  have hl := BL_len hW
  have ha2 := BL_mem.1 ha
  have hap := (hW.2.2.2.2.1 _ ha2.1 ha2.2).2.1
  have key : wp (m_133 v (nI a) I (Rc t) (Gc L)) (fun x => x = nI (bsn V a)) := by
    unfold m_133
    refine wp_s1 (wp_lpB V (fun p (m : Nat) => (nI m, nI p)) (fun k m => m = fln (nbq V a) k) (x0 := 0) hl rfl ?_ ?_ ?_)
    · rintro k m hk hV rfl
      rw [fq_f (nbq_f (Or.inl hV))]
    · rintro p m hp rfl
      have hb := BL_at hp
      have hbp := (hW.2.2.2.2.1 _ hb.1 hb.2).2.1
      have hab : pc a = pc ((BL V).getD p 0) := by rw [hap, hbp]
      simp (disch := omega) only [if_pos, if_neg, o_b1_s, o_b2_s, o_b3_s, o_b4_s, o_s1_s, o_s2_l, o_s2_r, o_g_t, i_add, i_mul, i_sub, i_and, i_or, i_xor, i_sd, i_shl, Nat.one_mul, i_eq, i_lt, i_le, i_n0, i_0le, i_e0, i_0lt, i_le0, i_cl, bz_0, wp_s, lq_l, lq_r, if_true, if_false, ite_not, true_and, and_true, m_133_b4, v_kd hv, h.2.2.1, v_rb hv, v_gb hv, h.2.2.2.2.2, c_129 ha2.1 hb.1 hab, c_182]
      by_cases e : nb a ((BL V).getD p 0)
      · rw [bz_t e]
        simp (disch := omega) only [o_b1_s, o_b2_s, o_b3_s, o_b4_s, o_s1_s, o_s2_l, o_s2_r, o_g_t, i_add, i_mul, i_sub, i_and, i_or, i_xor, i_sd, i_shl, Nat.one_mul, i_eq, i_lt, i_le, i_n0, i_0le, i_e0, i_0lt, i_le0, i_cl, bz_0, wp_s, lq_l, lq_r, if_true, if_false, ite_not, true_and, and_true]
        exact ⟨_, rfl, by rw [fq_t (nbq_t hb.2 e)]⟩
      · rw [bz_f e]
        simp (disch := omega) only [o_b1_s, o_b2_s, o_b3_s, o_b4_s, o_s1_s, o_s2_l, o_s2_r, o_g_t, i_add, i_mul, i_sub, i_and, i_or, i_xor, i_sd, i_shl, Nat.one_mul, i_eq, i_lt, i_le, i_n0, i_0le, i_e0, i_0lt, i_le0, i_cl, bz_0, wp_s, lq_l, lq_r, if_true, if_false, ite_not, true_and, and_true]
        exact ⟨_, rfl, by rw [fq_f (nbq_f (Or.inr e))]; rfl⟩
    · rintro m rfl
      simp (disch := omega) only [if_pos, if_neg, o_b1_s, o_b2_s, o_b3_s, o_b4_s, o_s1_s, o_s2_l, o_s2_r, o_g_t, i_add, i_mul, i_sub, i_and, i_or, i_xor, i_sd, i_shl, Nat.one_mul, i_eq, i_lt, i_le, i_n0, i_0le, i_e0, i_0lt, i_le0, i_cl, bz_0, wp_s, lq_l, lq_r, if_true, if_false, ite_not, true_and, and_true, m_133_b4, v_kd hv, h.2.2.1, m_133_x4_34]
      rfl
  obtain ⟨x, hx, rfl⟩ := key
  exact hx
theorem c_134 (hv : v ∈ VC) (hW : WF n r V) (h : CS I v n r V) : wp (m_134 v I (Rc t) (Gc L)) (fun x => x = nI (tks V 256 / 2)) := by
  have hl := BL_len hW
  unfold m_134
  refine wp_s1 (wp_lpB V (fun p (m : Nat) => (nI m, nI p)) (fun k m => m = tks V k) (x0 := 0) hl rfl ?_ ?_ ?_)
  · rintro k m hk hV rfl
    rw [tks, if_neg (fun h9 => h9 hV)]
  · rintro p m hp rfl
    have hb := BL_at hp
    simp (disch := omega) only [if_pos, if_neg, o_b1_s, o_b2_s, o_b3_s, o_b4_s, o_s1_s, o_s2_l, o_s2_r, o_g_t, i_add, i_mul, i_sub, i_and, i_or, i_xor, i_sd, i_shl, Nat.one_mul, i_eq, i_lt, i_le, i_n0, i_0le, i_e0, i_0lt, i_le0, i_cl, bz_0, wp_s, lq_l, lq_r, if_true, if_false, ite_not, true_and, and_true, m_134_b4, v_kd hv, h.2.2.1, v_rb hv, v_gb hv, h.2.2.2.2.2, c_133 hv hW h (BL_in hp)]
    exact ⟨_, rfl, by rw [tks, if_pos hb.2]⟩
  · rintro m rfl
    have := tks_le V 256
    simp (disch := omega) only [if_pos, if_neg, o_b1_s, o_b2_s, o_b3_s, o_b4_s, o_s1_s, o_s2_l, o_s2_r, o_g_t, i_add, i_mul, i_sub, i_and, i_or, i_xor, i_sd, i_shl, Nat.one_mul, i_eq, i_lt, i_le, i_n0, i_0le, i_e0, i_0lt, i_le0, i_cl, bz_0, wp_s, lq_l, lq_r, if_true, if_false, ite_not, true_and, and_true, m_134_b4, v_kd hv, h.2.2.1, m_134_x4_31, pk_div]
theorem c_135 (hv : v ∈ VC) (hW : WF n r V) (h : CS I v n r V) : wp (m_135 v I (Rc t) (Gc L)) (fun x => ∃ p, p < (BL V).length ∧ x = nI p ∧ mbs V ((BL V).getD p 0)) := by
  have hl := BL_len hW
  have hpos := BL_pos hW
  unfold m_135
  refine wp_s1 (wp_lp (fun i s => (i = 0 ∧ s = (nI 0, -1, nI 0)) ∨ ∃ p, p < i ∧ p < (BL V).length ∧ s = (nI p, nI (bsn V ((BL V).getD p 0)), nI i) ∧ ∀ j, j < i → bsn V ((BL V).getD j 0) ≤ bsn V ((BL V).getD p 0) ∧ (j < p → bsn V ((BL V).getD j 0) < bsn V ((BL V).getD p 0))) 0 (BL V).length (Nat.zero_le _) (by omega) (Or.inl ⟨rfl, rfl⟩) ?_ ?_)
  · rintro i _ hi hP
    have hb := BL_at hi
    have hle := bsn_le V ((BL V).getD i 0)
    rcases hP with ⟨rfl, rfl⟩ | ⟨p, hp, hp2, rfl, hq⟩
    · simp (disch := omega) only [if_pos, if_neg, o_b1_s, o_b2_s, o_b3_s, o_b4_s, o_s1_s, o_s2_l, o_s2_r, o_g_t, i_add, i_mul, i_sub, i_and, i_or, i_xor, i_sd, i_shl, Nat.one_mul, i_eq, i_lt, i_le, i_n0, i_0le, i_e0, i_0lt, i_le0, i_cl, bz_0, wp_s, lq_l, lq_r, if_true, if_false, ite_not, true_and, and_true, m_135_b6, v_kd hv, h.2.2.1, v_rb hv, v_gb hv, h.2.2.2.2.2, c_133 hv hW h (BL_in hi)]
      rw [if_neg (show ¬ nI (bsn V ((BL V).getD 0 0)) ≤ -1 from fun h9 => absurd (Int32.le_trans (nI_le (Nat.zero_le _) (by omega)) h9) (by decide))]
      simp (disch := omega) only [o_b1_s, o_b2_s, o_b3_s, o_b4_s, o_s1_s, o_s2_l, o_s2_r, o_g_t, i_add, i_mul, i_sub, i_and, i_or, i_xor, i_sd, i_shl, Nat.one_mul, i_eq, i_lt, i_le, i_n0, i_0le, i_e0, i_0lt, i_le0, i_cl, bz_0, wp_s, lq_l, lq_r, if_true, if_false, ite_not, true_and, and_true]
      refine Or.inr ⟨0, by omega, hpos, rfl, fun j hj => ?_⟩
      obtain rfl : j = 0 := by omega
      exact ⟨Nat.le_refl _, fun h9 => absurd h9 (Nat.lt_irrefl _)⟩
    · have hlp := bsn_le V ((BL V).getD p 0)
      simp (disch := omega) only [if_pos, if_neg, o_b1_s, o_b2_s, o_b3_s, o_b4_s, o_s1_s, o_s2_l, o_s2_r, o_g_t, i_add, i_mul, i_sub, i_and, i_or, i_xor, i_sd, i_shl, Nat.one_mul, i_eq, i_lt, i_le, i_n0, i_0le, i_e0, i_0lt, i_le0, i_cl, bz_0, wp_s, lq_l, lq_r, if_true, if_false, ite_not, true_and, and_true, m_135_b6, v_kd hv, h.2.2.1, v_rb hv, v_gb hv, h.2.2.2.2.2, c_133 hv hW h (BL_in hi)]
      split
      · rename_i c
        simp (disch := omega) only [o_b1_s, o_b2_s, o_b3_s, o_b4_s, o_s1_s, o_s2_l, o_s2_r, o_g_t, i_add, i_mul, i_sub, i_and, i_or, i_xor, i_sd, i_shl, Nat.one_mul, i_eq, i_lt, i_le, i_n0, i_0le, i_e0, i_0lt, i_le0, i_cl, bz_0, wp_s, lq_l, lq_r, if_true, if_false, ite_not, true_and, and_true]
        refine Or.inr ⟨p, by omega, hp2, rfl, fun j hj => ?_⟩
        by_cases e : j = i
        · rw [e]
          exact ⟨c, fun h9 => by omega⟩
        · exact hq j (by omega)
      · rename_i c
        simp (disch := omega) only [o_b1_s, o_b2_s, o_b3_s, o_b4_s, o_s1_s, o_s2_l, o_s2_r, o_g_t, i_add, i_mul, i_sub, i_and, i_or, i_xor, i_sd, i_shl, Nat.one_mul, i_eq, i_lt, i_le, i_n0, i_0le, i_e0, i_0lt, i_le0, i_cl, bz_0, wp_s, lq_l, lq_r, if_true, if_false, ite_not, true_and, and_true]
        refine Or.inr ⟨i, by omega, hi, rfl, fun j hj => ?_⟩
        by_cases e : j = i
        · rw [e]
          exact ⟨Nat.le_refl _, fun h9 => absurd h9 (Nat.lt_irrefl _)⟩
        · have := (hq j (by omega)).1
          exact ⟨by omega, fun _ => by omega⟩
  · rintro _ hP
    rcases hP with ⟨h0, rfl⟩ | ⟨p, hp, hp2, rfl, hq⟩
    · omega
    · simp (disch := omega) only [if_pos, if_neg, o_b1_s, o_b2_s, o_b3_s, o_b4_s, o_s1_s, o_s2_l, o_s2_r, o_g_t, i_add, i_mul, i_sub, i_and, i_or, i_xor, i_sd, i_shl, Nat.one_mul, i_eq, i_lt, i_le, i_n0, i_0le, i_e0, i_0lt, i_le0, i_cl, bz_0, wp_s, lq_l, lq_r, if_true, if_false, ite_not, true_and, and_true, m_135_b6, v_kd hv, h.2.2.1, m_135_x6_43]
      refine ⟨p, hp2, rfl, BL_in hp2, fun c hc => ?_⟩
      obtain ⟨j, hj, rfl⟩ := BL_ix hc
      refine ⟨(hq j hj).1, fun h9 => (hq j hj).2 ?_⟩
      apply Nat.lt_of_not_le
      intro h8
      by_cases e : p = j
      · rw [e] at h9
        omega
      · have := BL_mono (show p < j by omega) hj
        omega
end
theorem s_305 {I : ai_I} {t L s a : Nat} (hs : s < 12) (ha : a < 256) : m_305 75 (nI s) (nI a) I (Rc t) (Gc L) = some (nI (bsn (FV I s) a)) := by
  have key : wp (m_305 75 (nI s) (nI a) I (Rc t) (Gc L)) (fun x => x = nI (bsn (FV I s) a)) := by
    unfold m_305
    refine wp_s1 (wp_lp (fun k q => q = (nI (fln (nbq (FV I s) a) k), nI k)) 0 256 (Nat.zero_le _) (by omega) rfl ?_ ?_)
    · rintro k _ hk rfl
      simp (disch := omega) only [if_pos, if_neg, o_b1_s, o_b2_s, o_b3_s, o_b4_s, o_s1_s, o_s2_l, o_s2_r, o_g_t, i_add, i_mul, i_sub, i_and, i_or, i_xor, i_sd, i_shl, Nat.one_mul, i_eq, i_lt, i_le, i_n0, i_0le, i_e0, i_0lt, i_le0, i_cl, bz_0, wp_s, lq_l, lq_r, if_true, if_false, ite_not, true_and, and_true, m_305_b5, s_199, s_267]
      split
      · rename_i c
        simp (disch := omega) only [o_b1_s, o_b2_s, o_b3_s, o_b4_s, o_s1_s, o_s2_l, o_s2_r, o_g_t, i_add, i_mul, i_sub, i_and, i_or, i_xor, i_sd, i_shl, Nat.one_mul, i_eq, i_lt, i_le, i_n0, i_0le, i_e0, i_0lt, i_le0, i_cl, bz_0, wp_s, lq_l, lq_r, if_true, if_false, ite_not, true_and, and_true]
        rw [fq_f (nbq_f (Or.inl c))]
      · rename_i c
        split
        · rename_i c2
          simp (disch := omega) only [o_b1_s, o_b2_s, o_b3_s, o_b4_s, o_s1_s, o_s2_l, o_s2_r, o_g_t, i_add, i_mul, i_sub, i_and, i_or, i_xor, i_sd, i_shl, Nat.one_mul, i_eq, i_lt, i_le, i_n0, i_0le, i_e0, i_0lt, i_le0, i_cl, bz_0, wp_s, lq_l, lq_r, if_true, if_false, ite_not, true_and, and_true]
          rw [fq_t (nbq_t c c2)]
        · rename_i c2
          simp (disch := omega) only [o_b1_s, o_b2_s, o_b3_s, o_b4_s, o_s1_s, o_s2_l, o_s2_r, o_g_t, i_add, i_mul, i_sub, i_and, i_or, i_xor, i_sd, i_shl, Nat.one_mul, i_eq, i_lt, i_le, i_n0, i_0le, i_e0, i_0lt, i_le0, i_cl, bz_0, wp_s, lq_l, lq_r, if_true, if_false, ite_not, true_and, and_true]
          rw [fq_f (nbq_f (Or.inr c2))]
    · rintro _ rfl
      simp (disch := omega) only [if_pos, if_neg, o_b1_s, o_b2_s, o_b3_s, o_b4_s, o_s1_s, o_s2_l, o_s2_r, o_g_t, i_add, i_mul, i_sub, i_and, i_or, i_xor, i_sd, i_shl, Nat.one_mul, i_eq, i_lt, i_le, i_n0, i_0le, i_e0, i_0lt, i_le0, i_cl, bz_0, wp_s, lq_l, lq_r, if_true, if_false, ite_not, true_and, and_true, m_305_b5, m_305_x5_42]
      rfl
  obtain ⟨x, hx, rfl⟩ := key
  exact hx
/-- from a the farthest is so many steps; some base is not come to -/
def ecR (V : Nat → Int32) (a e : Nat) : Prop := ∃ q, BQ V a q ∧ (bsg V a q).1 = (BL V).length ∧ e + 1 = (bsg V a q).2.2 ((bsg V a q).2.1 ((bsg V a q).1 - 1))
def ecN (V : Nat → Int32) (a : Nat) : Prop := ∃ q, BQ V a q ∧ (bsg V a q).1 < (BL V).length
def wdS (V : Nat → Int32) (o : Option Nat) : Prop := match o with
  | none => ∃ a, a ∈ BL V ∧ ecN V a
  | some m => (∀ a, a ∈ BL V → ∃ e, ecR V a e ∧ e ≤ m) ∧ (m = 0 ∨ ∃ a, a ∈ BL V ∧ ecR V a m)
theorem ecR_one {V : Nat → Int32} {a e f : Nat} (h1 : ecR V a e) (h2 : ecR V a f) : e = f := by
  obtain ⟨q, a1, a2, a3⟩ := h1
  obtain ⟨p, b1, b2, b3⟩ := h2
  obtain rfl := BQ_one a1 b1
  omega
theorem ecR_not {V : Nat → Int32} {a e : Nat} (h1 : ecR V a e) (h2 : ecN V a) : False := by
  obtain ⟨q, a1, a2, a3⟩ := h1
  obtain ⟨p, b1, b2⟩ := h2
  obtain rfl := BQ_one a1 b1
  omega
theorem wdS_one {V : Nat → Int32} : ∀ {o p : Option Nat}, wdS V o → wdS V p → o = p
  | none, none, _, _ => rfl
  | none, some m, ⟨a, h1, h2⟩, h3 => by
    obtain ⟨e, h4, -⟩ := h3.1 a h1
    exact (ecR_not h4 h2).elim
  | some m, none, h3, ⟨a, h1, h2⟩ => by
    obtain ⟨e, h4, -⟩ := h3.1 a h1
    exact (ecR_not h4 h2).elim
  | some m, some l, h1, h2 => by
    have key : ∀ {m l : Nat}, wdS V (some m) → wdS V (some l) → m ≤ l := fun {m l} h1 h2 => by
      rcases h1.2 with h | ⟨a, ha, h⟩
      · omega
      · obtain ⟨e, h4, h5⟩ := h2.1 a ha
        have := ecR_one h h4
        omega
    have := key h1 h2
    have := key h2 h1
    rw [show m = l by omega]
theorem mx_n {a b : Nat} : (if a < b then nI b else nI a) = nI (max a b) := by
  by_cases c : a < b
  · rw [if_pos c, Nat.max_eq_right (by omega)]
  · rw [if_neg c, Nat.max_eq_left (by omega)]
theorem c_132 {I : ai_I} {t L v n r : Nat} {V : Nat → Int32} (hv : v ∈ VC) (hW : WF n r V) (h : CS I v n r V) : wp (m_132 63 v I (Rc t) (Gc L)) (fun q => ot2 I q.2 64 66 ∧ ∃ o, q.1 = bst o ∧ wdS V o) := by
  have hl := BL_len hW
  have hpos := BL_pos hW
  have hvv := vc_51 v hv
  unfold m_132
  refine wp_s2 (wp_lpB V (fun p (x : Nat × ai_I) => (nI x.1, nI p, x.2)) (fun k x => ot2 I x.2 64 66 ∧ x.1 ≤ 256 ∧ (∀ a, a ∈ BL V → a < k → ∃ e, ecR V a e ∧ e ≤ x.1) ∧ (x.1 = 0 ∨ ∃ a, a ∈ BL V ∧ ecR V a x.1)) (x0 := (0, I)) hl ⟨fun _ _ _ => rfl, Nat.zero_le _, fun a _ h9 => absurd h9 (Nat.not_lt_zero _), Or.inl rfl⟩ ?_ ?_ ?_)
  · rintro k ⟨m, J⟩ hk hV ⟨h1, h0, h2, h3⟩
    refine ⟨h1, h0, fun a ha hak => h2 a ha ?_, h3⟩
    have : ¬ a = k := fun h9 => (BL_mem.1 ha).2 (by rw [h9]; exact hV)
    omega
  · rintro p ⟨m, J⟩ hp ⟨h1, h0, h2, h3⟩
    dsimp only at h0 h1 h2 h3
    have hC : CS J v n r V := CS_cong (fun _ _ => rfl) (h1 _ (by omega) (by omega)) (h1 _ (by omega) (by omega)) (h1 _ (by omega) (by omega)) (h1 _ (by omega) (by omega)) h
    have hbB := BL_in hp
    simp (disch := omega) only [if_pos, if_neg, o_b1_s, o_b2_s, o_b3_s, o_b4_s, o_s1_s, o_s2_l, o_s2_r, o_g_t, i_add, i_mul, i_sub, i_and, i_or, i_xor, i_sd, i_shl, Nat.one_mul, i_eq, i_lt, i_le, i_n0, i_0le, i_e0, i_0lt, i_le0, i_cl, bz_0, wp_s, lq_l, lq_r, if_true, if_false, ite_not, true_and, and_true, m_132_b4, v_kd hv, hC.2.2.1, v_rb hv, v_gb hv, hC.2.2.2.2.2]
    refine wp_b2 (wp_mono (c_127 (t := t) (L := L) hv hW hC hbB) ?_)
    rintro ⟨x, K⟩ ⟨q, hq, k1, k2, k3⟩
    dsimp only at k1 k2 k3
    have hBI := BI_sg hbB q hq.2
    have hle := BI_le hBI
    have hCK : CS K v n r V := CS_cong (fun _ _ => rfl) (k3 _ (by omega) (by omega)) (k3 _ (by omega) (by omega)) (k3 _ (by omega) (by omega)) (k3 _ (by omega) (by omega)) hC
    have fr : ot2 I K 64 66 := fun c c1 c2 => (k3 c c1 c2).trans (h1 c c1 c2)
    have h0n := hBI.1
    have hlast := hBI.2.2.1 ((bsg V ((BL V).getD p 0) q).1 - 1) (by omega)
    have hlast2 := BL_mem.1 hlast.1
    have hst := hBI.2.2.2.1 ((bsg V ((BL V).getD p 0) q).2.1 ((bsg V ((BL V).getD p 0) q).1 - 1))
    by_cases c : (BL V).length ≤ (bsg V ((BL V).getD p 0) q).1
    · have hv64 : K 64 ((bsg V ((BL V).getD p 0) q).2.1 ((bsg V ((BL V).getD p 0) q).1 - 1)) = nI ((bsg V ((BL V).getD p 0) q).2.2 ((bsg V ((BL V).getD p 0) q).2.1 ((bsg V ((BL V).getD p 0) q).1 - 1)) - 1) := by
        rw [k2.1 _ hlast2.1, dwn_p (by omega)]
      have hE : ecR V ((BL V).getD p 0) ((bsg V ((BL V).getD p 0) q).2.2 ((bsg V ((BL V).getD p 0) q).2.1 ((bsg V ((BL V).getD p 0) q).1 - 1)) - 1) := ⟨q, hq, by omega, by omega⟩
      rw [k1]
      simp (disch := omega) only [if_pos, if_neg, o_b1_s, o_b2_s, o_b3_s, o_b4_s, o_s1_s, o_s2_l, o_s2_r, o_g_t, i_add, i_mul, i_sub, i_and, i_or, i_xor, i_sd, i_shl, Nat.one_mul, i_eq, i_lt, i_le, i_n0, i_0le, i_e0, i_0lt, i_le0, i_cl, bz_0, wp_s, lq_l, lq_r, if_true, if_false, ite_not, true_and, and_true, hCK.2.2.1, r_63_2, g_66, k2.2, r_63_0, g_64, hv64]
      rw [mx_n]
      have hel : (bsg V ((BL V).getD p 0) q).2.2 ((bsg V ((BL V).getD p 0) q).2.1 ((bsg V ((BL V).getD p 0) q).1 - 1)) - 1 ≤ 256 := by omega
      generalize (bsg V ((BL V).getD p 0) q).2.2 ((bsg V ((BL V).getD p 0) q).2.1 ((bsg V ((BL V).getD p 0) q).1 - 1)) - 1 = e at hE hel ⊢
      refine ⟨(max m e, K), rfl, fr, by show max m e ≤ 256; omega, fun a ha hak => ?_, ?_⟩
      · by_cases e1 : a = (BL V).getD p 0
        · rw [e1]
          exact ⟨e, hE, Nat.le_max_right _ _⟩
        · obtain ⟨f, f1, f2⟩ := h2 a ha (by omega)
          exact ⟨f, f1, Nat.le_trans f2 (Nat.le_max_left _ _)⟩
      · show max m e = 0 ∨ ∃ a, a ∈ BL V ∧ ecR V a (max m e)
        by_cases e1 : e ≤ m
        · rw [Nat.max_eq_left e1]
          exact h3
        · rw [Nat.max_eq_right (by omega)]
          exact Or.inr ⟨_, hbB, hE⟩
    · rw [k1]
      simp (disch := omega) only [if_pos, if_neg, o_b1_s, o_b2_s, o_b3_s, o_b4_s, o_s1_s, o_s2_l, o_s2_r, o_g_t, i_add, i_mul, i_sub, i_and, i_or, i_xor, i_sd, i_shl, Nat.one_mul, i_eq, i_lt, i_le, i_n0, i_0le, i_e0, i_0lt, i_le0, i_cl, bz_0, wp_s, lq_l, lq_r, if_true, if_false, ite_not, true_and, and_true, hCK.2.2.1, m_132_x4_34]
      exact ⟨fr, none, rfl, _, hbB, q, hq, by omega⟩
  · rintro ⟨m, J⟩ ⟨h1, h0, h2, h3⟩
    dsimp only at h1 h2 h3
    have hC : CS J v n r V := CS_cong (fun _ _ => rfl) (h1 _ (by omega) (by omega)) (h1 _ (by omega) (by omega)) (h1 _ (by omega) (by omega)) (h1 _ (by omega) (by omega)) h
    simp (disch := omega) only [if_pos, if_neg, o_b1_s, o_b2_s, o_b3_s, o_b4_s, o_s1_s, o_s2_l, o_s2_r, o_g_t, i_add, i_mul, i_sub, i_and, i_or, i_xor, i_sd, i_shl, Nat.one_mul, i_eq, i_lt, i_le, i_n0, i_0le, i_e0, i_0lt, i_le0, i_cl, bz_0, wp_s, lq_l, lq_r, if_true, if_false, ite_not, true_and, and_true, m_132_b4, v_kd hv, hC.2.2.1, m_132_x4_62]
    exact ⟨h1, some m, rfl, fun a ha => h2 a ha (BL_mem.1 ha).1, h3⟩
theorem s_306 {I : ai_I} {t L s n r : Nat} (hs : s < 4) (hW : WF n r (FV I s)) : wp (m_306 75 (nI s) I (Rc t) (Gc L)) (fun q => ot2 I q.2 87 89 ∧ ∃ o, q.1 = bst o ∧ wdS (FV I s) o) := by
  have hl := BL_len hW
  have hf : ∀ J : ai_I, ot2 I J 87 89 → FV J s = FV I s := fun J hJ => by
    unfold FV
    rw [hJ 76 (by decide) (by decide)]
  unfold m_306
  refine wp_s2 (wp_lp (fun k q => ∃ m J, q = (nI m, nI k, J) ∧ ot2 I J 87 89 ∧ m ≤ 256 ∧ (∀ a, a ∈ BL (FV I s) → a < k → ∃ e, ecR (FV I s) a e ∧ e ≤ m) ∧ (m = 0 ∨ ∃ a, a ∈ BL (FV I s) ∧ ecR (FV I s) a m)) 0 256 (Nat.zero_le _) (by omega) ⟨0, I, rfl, fun _ _ _ => rfl, Nat.zero_le _, fun a _ h9 => absurd h9 (Nat.not_lt_zero _), Or.inl rfl⟩ ?_ ?_)
  · rintro k _ hk ⟨m, J, rfl, hJ, h0, h2, h3⟩
    simp (disch := omega) only [if_pos, if_neg, o_b1_s, o_b2_s, o_b3_s, o_b4_s, o_s1_s, o_s2_l, o_s2_r, o_g_t, i_add, i_mul, i_sub, i_and, i_or, i_xor, i_sd, i_shl, Nat.one_mul, i_eq, i_lt, i_le, i_n0, i_0le, i_e0, i_0lt, i_le0, i_cl, bz_0, wp_s, lq_l, lq_r, if_true, if_false, ite_not, true_and, and_true, m_306_b4, s_199, hf J hJ]
    split
    · rename_i c1
      simp (disch := omega) only [o_b1_s, o_b2_s, o_b3_s, o_b4_s, o_s1_s, o_s2_l, o_s2_r, o_g_t, i_add, i_mul, i_sub, i_and, i_or, i_xor, i_sd, i_shl, Nat.one_mul, i_eq, i_lt, i_le, i_n0, i_0le, i_e0, i_0lt, i_le0, i_cl, bz_0, wp_s, lq_l, lq_r, if_true, if_false, ite_not, true_and, and_true]
      refine ⟨m, J, rfl, hJ, h0, fun a ha hak => h2 a ha ?_, h3⟩
      have : ¬ a = k := fun h9 => (BL_mem.1 ha).2 (by rw [h9]; exact c1)
      omega
    · rename_i c1
      have hkB : k ∈ BL (FV I s) := BL_mem.2 ⟨hk, c1⟩
      refine wp_b1 (wp_mono (s_302 (I := J) (t := t) (L := L) (s := s) (n := n) (r := r) (a := k) hs (by rw [hf J hJ]; exact hW) (by rw [hf J hJ]; exact hkB)) ?_)
      rw [hf J hJ]
      rintro K ⟨q, hq, k2, k3⟩
      have hBI := BI_sg hkB q hq.2
      have hle := BI_le hBI
      have fr : ot2 I K 87 89 := fun c c1 c2 => (k3 c c1 c2).trans (hJ c c1 c2)
      have hFK := hf K fr
      have h0n := hBI.1
      have hlast := hBI.2.2.1 ((bsg (FV I s) k q).1 - 1) (by omega)
      refine wp_s2 (wp_lp (fun j z => ∃ e, z = (nI e, nI j) ∧ e ≤ 256 ∧ m ≤ e ∧ (∀ b, b ∈ BL (FV I s) → b < j → ¬ (bsg (FV I s) k q).2.2 b = 0 ∧ (bsg (FV I s) k q).2.2 b ≤ e + 1) ∧ (e = m ∨ ∃ b, b ∈ BL (FV I s) ∧ (bsg (FV I s) k q).2.2 b = e + 1)) 0 256 (Nat.zero_le _) (by omega) ⟨m, rfl, h0, Nat.le_refl _, fun b _ h9 => absurd h9 (Nat.not_lt_zero _), Or.inl rfl⟩ ?_ ?_)
      · rintro j _ hj ⟨e, rfl, e0, e1, e2, e3⟩
        have hst := hBI.2.2.2.1 j
        have hz : K 87 j = (-1 : Int32) ↔ (bsg (FV I s) k q).2.2 j = 0 := by
          rw [k2.1 j hj, nmin1 (by omega)]
        simp (disch := omega) only [if_pos, if_neg, o_b1_s, o_b2_s, o_b3_s, o_b4_s, o_s1_s, o_s2_l, o_s2_r, o_g_t, i_add, i_mul, i_sub, i_and, i_or, i_xor, i_sd, i_shl, Nat.one_mul, i_eq, i_lt, i_le, i_n0, i_0le, i_e0, i_0lt, i_le0, i_cl, bz_0, wp_s, lq_l, lq_r, if_true, if_false, ite_not, true_and, and_true, m_306_b32, m_306_j64, s_199, hFK, r_75_26, g_87]
        by_cases c2 : FV I s j = NO
        · rw [if_pos c2]
          simp (disch := omega) only [o_b1_s, o_b2_s, o_b3_s, o_b4_s, o_s1_s, o_s2_l, o_s2_r, o_g_t, i_add, i_mul, i_sub, i_and, i_or, i_xor, i_sd, i_shl, Nat.one_mul, i_eq, i_lt, i_le, i_n0, i_0le, i_e0, i_0lt, i_le0, i_cl, bz_0, wp_s, lq_l, lq_r, if_true, if_false, ite_not, true_and, and_true]
          refine ⟨e, rfl, e0, e1, fun b hb hbj => e2 b hb ?_, e3⟩
          have : ¬ b = j := fun h9 => (BL_mem.1 hb).2 (by rw [h9]; exact c2)
          omega
        · rw [if_neg c2]
          have hjB : j ∈ BL (FV I s) := BL_mem.2 ⟨hj, c2⟩
          by_cases c3 : (bsg (FV I s) k q).2.2 j = 0
          · rw [if_pos (hz.2 c3)]
            simp (disch := omega) only [o_b1_s, o_b2_s, o_b3_s, o_b4_s, o_s1_s, o_s2_l, o_s2_r, o_g_t, i_add, i_mul, i_sub, i_and, i_or, i_xor, i_sd, i_shl, Nat.one_mul, i_eq, i_lt, i_le, i_n0, i_0le, i_e0, i_0lt, i_le0, i_cl, bz_0, wp_s, lq_l, lq_r, if_true, if_false, ite_not, true_and, and_true, m_306_x32_61, m_306_x4_61]
            exact ⟨fr, none, rfl, k, hkB, q, hq, BI_lt hBI hjB c3⟩
          · rw [if_neg (fun h9 => c3 (hz.1 h9)), k2.1 j hj, dwn_p (by omega), s_191n (by omega) (by omega)]
            simp (disch := omega) only [o_b1_s, o_b2_s, o_b3_s, o_b4_s, o_s1_s, o_s2_l, o_s2_r, o_g_t, i_add, i_mul, i_sub, i_and, i_or, i_xor, i_sd, i_shl, Nat.one_mul, i_eq, i_lt, i_le, i_n0, i_0le, i_e0, i_0lt, i_le0, i_cl, bz_0, wp_s, lq_l, lq_r, if_true, if_false, ite_not, true_and, and_true]
            refine ⟨_, rfl, by omega, Nat.le_trans e1 (Nat.le_max_left _ _), fun b hb hbj => ?_, ?_⟩
            · by_cases e4 : b = j
              · rw [e4]
                exact ⟨c3, by omega⟩
              · obtain ⟨e5, e6⟩ := e2 b hb (by omega)
                exact ⟨e5, by omega⟩
            · by_cases e4 : (bsg (FV I s) k q).2.2 j - 1 ≤ e
              · rw [Nat.max_eq_left e4]
                exact e3
              · rw [Nat.max_eq_right (by omega)]
                exact Or.inr ⟨j, hjB, by omega⟩
      · rintro _ ⟨e, rfl, e0, e1, e2, e3⟩
        simp (disch := omega) only [if_pos, if_neg, o_b1_s, o_b2_s, o_b3_s, o_b4_s, o_s1_s, o_s2_l, o_s2_r, o_g_t, i_add, i_mul, i_sub, i_and, i_or, i_xor, i_sd, i_shl, Nat.one_mul, i_eq, i_lt, i_le, i_n0, i_0le, i_e0, i_0lt, i_le0, i_cl, bz_0, wp_s, lq_l, lq_r, if_true, if_false, ite_not, true_and, and_true, m_306_b32, m_306_x32_92]
        have hall : (bsg (FV I s) k q).1 = (BL (FV I s)).length := by
          rw [← hBI.2.1, List.filter_eq_self.2 (fun b hb => by
            unfold nz
            exact decide_eq_true (e2 b hb (BL_mem.1 hb).1).1)]
        have hE : ecR (FV I s) k ((bsg (FV I s) k q).2.2 ((bsg (FV I s) k q).2.1 ((bsg (FV I s) k q).1 - 1)) - 1) := ⟨q, hq, hall, by have := hlast.2; omega⟩
        have hge := (e2 _ hlast.1 (BL_mem.1 hlast.1).1).2
        refine ⟨e, K, rfl, fr, e0, fun a ha hak => ?_, ?_⟩
        · by_cases e4 : a = k
          · rw [e4]
            exact ⟨_, hE, by omega⟩
          · obtain ⟨f, f1, f2⟩ := h2 a ha (by omega)
            exact ⟨f, f1, Nat.le_trans f2 e1⟩
        · rcases e3 with e3 | ⟨b, hb, e3⟩
          · rw [e3]
            exact h3
          · refine Or.inr ⟨k, hkB, ?_⟩
            obtain ⟨i, hi, e4⟩ := hBI.2.2.2.2.1 b hb (by omega)
            have h5 := hBI.2.2.2.2.2.1 i ((bsg (FV I s) k q).1 - 1) (by omega) (by omega)
            rw [e4, e3] at h5
            have e6 : (bsg (FV I s) k q).2.2 ((bsg (FV I s) k q).2.1 ((bsg (FV I s) k q).1 - 1)) - 1 = e := by omega
            rw [← e6]
            exact hE
  · rintro _ ⟨m, J, rfl, hJ, h0, h2, h3⟩
    simp (disch := omega) only [if_pos, if_neg, o_b1_s, o_b2_s, o_b3_s, o_b4_s, o_s1_s, o_s2_l, o_s2_r, o_g_t, i_add, i_mul, i_sub, i_and, i_or, i_xor, i_sd, i_shl, Nat.one_mul, i_eq, i_lt, i_le, i_n0, i_0le, i_e0, i_0lt, i_le0, i_cl, bz_0, wp_s, lq_l, lq_r, if_true, if_false, ite_not, true_and, and_true, m_306_b4, m_306_x4_98]
    exact ⟨hJ, some m, rfl, fun a ha => h2 a ha (BL_mem.1 ha).1, h3⟩
