/-! Out of whole's part 57.init, by wip/p46/extract.py. -/
/-- a greatest one -/
def inq (V S : Nat → Int32) (g : Int32) (x : Nat) : Bool := decide (V x ≠ NO) && decide (S x = g)
def irow (V S : Nat → Int32) (g : Int32) (x : Nat) : Int32 := if inq V S g x = true then nI 0 else NO
theorem inq_t {V S : Nat → Int32} {g : Int32} {x : Nat} (h1 : ¬ V x = NO) (h2 : S x = g) : inq V S g x = true := by
  unfold inq
  rw [decide_eq_true h1, decide_eq_true h2]
  rfl
theorem inq_f {V S : Nat → Int32} {g : Int32} {x : Nat} (h : V x = NO ∨ ¬ S x = g) : inq V S g x = false := by
  unfold inq
  rcases h with h | h
  · rw [decide_eq_false (fun h9 => h9 h)]
    rfl
  · rw [decide_eq_false h, Bool.and_false]
theorem fq_t {p : Nat → Bool} {k : Nat} (h : p k = true) : fln p (k + 1) = fln p k + 1 := by rw [fln_succ, if_pos h]
theorem fq_f {p : Nat → Bool} {k : Nat} (h : p k = false) : fln p (k + 1) = fln p k := by
  rw [fln_succ, h]
  rfl
section
variable {I : ai_I} {t v n r : Nat} {L : ai_G} {V S : Nat → Int32} {g : Int32}
theorem c_105' (hT : TB I V S) (hg : I 57 1 = g) {b : Nat} (hb : b ∈ BL V) : m_73 57 (nI b) I (Rc t) (Gc L) = some (bz (S b = g)) := by
  have hb2 := BL_mem.1 hb
  rw [c_105 hb2.1, hT b hb2.1, if_pos hb2.2, hg]
theorem c_108 (hv : v ∈ VC) (hW : WF n r V) (h : CS I v n r V) (hT : TB I V S) (hg : I 57 1 = g) : wp (m_76 57 v I (Rc t) (Gc L)) (fun x => x = nI (fln (inq V S g) 256)) := by
  have hl := BL_len hW
  unfold m_76
  refine wp_s1 (wp_lpB V (fun p (m : Nat) => (nI m, nI p)) (fun k m => m = fln (inq V S g) k) (x0 := 0) hl rfl ?_ ?_ ?_)
  · rintro k m hk hV rfl
    rw [fq_f (inq_f (Or.inl hV))]
  · rintro p m hp rfl
    have hb := BL_at hp
    simp (disch := omega) only [if_pos, if_neg, o_b1_s, o_b2_s, o_b3_s, o_b4_s, o_s1_s, o_s2_l, o_s2_r, o_g_t, i_add, i_mul, i_sub, i_and, i_or, i_xor, i_sd, i_shl, Nat.one_mul, i_eq, i_lt, i_le, i_n0, i_0le, i_e0, i_0lt, i_le0, i_cl, bz_0, wp_s, lq_l, lq_r, if_true, if_false, ite_not, true_and, and_true, m_76_b4, v_kd hv, h.2.2.1, v_rb hv, v_gb hv, h.2.2.2.2.2, c_105' hT hg (BL_in hp), c_182]
    by_cases e : S ((BL V).getD p 0) = g
    · rw [bz_t e]
      simp (disch := omega) only [o_b1_s, o_b2_s, o_b3_s, o_b4_s, o_s1_s, o_s2_l, o_s2_r, o_g_t, i_add, i_mul, i_sub, i_and, i_or, i_xor, i_sd, i_shl, Nat.one_mul, i_eq, i_lt, i_le, i_n0, i_0le, i_e0, i_0lt, i_le0, i_cl, bz_0, wp_s, lq_l, lq_r, if_true, if_false, ite_not, true_and, and_true]
      exact ⟨_, rfl, by rw [fq_t (inq_t hb.2 e)]⟩
    · rw [bz_f e]
      simp (disch := omega) only [o_b1_s, o_b2_s, o_b3_s, o_b4_s, o_s1_s, o_s2_l, o_s2_r, o_g_t, i_add, i_mul, i_sub, i_and, i_or, i_xor, i_sd, i_shl, Nat.one_mul, i_eq, i_lt, i_le, i_n0, i_0le, i_e0, i_0lt, i_le0, i_cl, bz_0, wp_s, lq_l, lq_r, if_true, if_false, ite_not, true_and, and_true]
      exact ⟨_, rfl, by rw [fq_f (inq_f (Or.inr e))]; rfl⟩
  · rintro m rfl
    simp (disch := omega) only [if_pos, if_neg, o_b1_s, o_b2_s, o_b3_s, o_b4_s, o_s1_s, o_s2_l, o_s2_r, o_g_t, i_add, i_mul, i_sub, i_and, i_or, i_xor, i_sd, i_shl, Nat.one_mul, i_eq, i_lt, i_le, i_n0, i_0le, i_e0, i_0lt, i_le0, i_cl, bz_0, wp_s, lq_l, lq_r, if_true, if_false, ite_not, true_and, and_true, m_76_b4, v_kd hv, h.2.2.1, m_76_x4_34]
theorem c_109 (hv : v ∈ VC) (hW : WF n r V) (h : CS I v n r V) (hT : TB I V S) (hg : I 57 1 = g) {w : Nat} (hw : w < 2147483648) : wp (m_77 57 v (nI w) I (Rc t) (Gc L)) (fun x => (∃ b, b < 256 ∧ inq V S g b = true ∧ fln (inq V S g) b = w ∧ x = nI b) ∨ (x = -4 ∧ fln (inq V S g) 256 ≤ w)) := by
  have hl := BL_len hW
  unfold m_77
  refine wp_s2 (wp_lpB V (fun p (m : Nat) => (nI m, nI p)) (fun k m => m + fln (inq V S g) k = w) (x0 := w) hl rfl ?_ ?_ ?_)
  · rintro k m hk hV hm
    rw [fq_f (inq_f (Or.inl hV))]
    exact hm
  · rintro p m hp hm
    have hb := BL_at hp
    simp (disch := omega) only [if_pos, if_neg, o_b1_s, o_b2_s, o_b3_s, o_b4_s, o_s1_s, o_s2_l, o_s2_r, o_g_t, i_add, i_mul, i_sub, i_and, i_or, i_xor, i_sd, i_shl, Nat.one_mul, i_eq, i_lt, i_le, i_n0, i_0le, i_e0, i_0lt, i_le0, i_cl, bz_0, wp_s, lq_l, lq_r, if_true, if_false, ite_not, true_and, and_true, m_77_b5, v_kd hv, h.2.2.1, v_rb hv, v_gb hv, h.2.2.2.2.2, c_105' hT hg (BL_in hp)]
    split
    · rename_i e
      split
      · rename_i e2
        simp (disch := omega) only [if_pos, if_neg, o_b1_s, o_b2_s, o_b3_s, o_b4_s, o_s1_s, o_s2_l, o_s2_r, o_g_t, i_add, i_mul, i_sub, i_and, i_or, i_xor, i_sd, i_shl, Nat.one_mul, i_eq, i_lt, i_le, i_n0, i_0le, i_e0, i_0lt, i_le0, i_cl, bz_0, wp_s, lq_l, lq_r, if_true, if_false, ite_not, true_and, and_true, m_77_x5_32, v_kd hv, v_rb hv, v_gb hv, h.2.2.2.2.2]
        exact Or.inl ⟨_, hb.1, inq_t hb.2 e, by omega, rfl⟩
      · rename_i e2
        obtain ⟨m2, rfl⟩ : ∃ m2, m = m2 + 1 := ⟨m - 1, by omega⟩
        rw [i_dec]
        simp (disch := omega) only [o_b1_s, o_b2_s, o_b3_s, o_b4_s, o_s1_s, o_s2_l, o_s2_r, o_g_t, i_add, i_mul, i_sub, i_and, i_or, i_xor, i_sd, i_shl, Nat.one_mul, i_eq, i_lt, i_le, i_n0, i_0le, i_e0, i_0lt, i_le0, i_cl, bz_0, wp_s, lq_l, lq_r, if_true, if_false, ite_not, true_and, and_true]
        exact ⟨m2, rfl, by rw [fq_t (inq_t hb.2 e)]; omega⟩
    · rename_i e
      simp (disch := omega) only [o_b1_s, o_b2_s, o_b3_s, o_b4_s, o_s1_s, o_s2_l, o_s2_r, o_g_t, i_add, i_mul, i_sub, i_and, i_or, i_xor, i_sd, i_shl, Nat.one_mul, i_eq, i_lt, i_le, i_n0, i_0le, i_e0, i_0lt, i_le0, i_cl, bz_0, wp_s, lq_l, lq_r, if_true, if_false, ite_not, true_and, and_true]
      exact ⟨m, rfl, by rw [fq_f (inq_f (Or.inr e))]; exact hm⟩
  · rintro m hm
    simp (disch := omega) only [if_pos, if_neg, o_b1_s, o_b2_s, o_b3_s, o_b4_s, o_s1_s, o_s2_l, o_s2_r, o_g_t, i_add, i_mul, i_sub, i_and, i_or, i_xor, i_sd, i_shl, Nat.one_mul, i_eq, i_lt, i_le, i_n0, i_0le, i_e0, i_0lt, i_le0, i_cl, bz_0, wp_s, lq_l, lq_r, if_true, if_false, ite_not, true_and, and_true, m_77_b5, v_kd hv, h.2.2.1, m_77_x5_49]
    exact Or.inr (by omega)
theorem c_36 (hv : v ∈ VC) (hW : WF n r V) (h : CS I v n r V) (hT : TB I V S) (hg : I 57 1 = g) : wp (m_25 55 v 57 I (Rc t) (Gc L)) (fun q => q.1 = 56 ∧ ot I q.2 56 ∧ ∀ k, k < 256 → q.2 56 k = irow V S g k) := by
  have hl := BL_len hW
  have hvv := vc_51 v hv
  obtain ⟨J, j1, j2, j3⟩ := c_332 (I := I) (L := L) (a := 56) (n := 256) (x := NO) rfl rfl (by decide)
  unfold m_25
  rw [r_55_3, j1, o_b1_s]
  refine wp_s1 (wp_lpB V (fun p (J : ai_I) => (nI p, J)) (fun k J => ot I J 56 ∧ ∀ j, j < 256 → J 56 j = if j < k then irow V S g j else NO) (x0 := J) hl ⟨j2, fun j hj => by rw [if_neg (Nat.not_lt_zero _)]; exact j3 j hj⟩ ?_ ?_ ?_)
  · rintro k J hk hV ⟨h1, h2⟩
    refine ⟨h1, fun j hj => ?_⟩
    rw [h2 j hj]
    by_cases e : j = k
    · rw [e, if_neg (Nat.lt_irrefl _), if_pos (by omega)]
      unfold irow
      rw [inq_f (Or.inl hV)]
      rfl
    · by_cases e2 : j < k
      · rw [if_pos e2, if_pos (by omega)]
      · rw [if_neg e2, if_neg (by omega)]
  · rintro p J hp ⟨h1, h2⟩
    have hC : CS J v n r V := CS_cong (fun _ _ => rfl) (h1 _ (by omega)) (h1 _ (by omega)) (h1 _ (by omega)) (h1 _ (by omega)) h
    have hb := BL_at hp
    have hTJ : TB J V S := fun x hx => by rw [h1 58 (by decide)]; exact hT x hx
    have hgJ : J 57 1 = g := by rw [h1 57 (by decide)]; exact hg
    have same : S ((BL V).getD p 0) = g ∨ ¬ S ((BL V).getD p 0) = g := Decidable.em _
    simp (disch := omega) only [if_pos, if_neg, o_b1_s, o_b2_s, o_b3_s, o_b4_s, o_s1_s, o_s2_l, o_s2_r, o_g_t, i_add, i_mul, i_sub, i_and, i_or, i_xor, i_sd, i_shl, Nat.one_mul, i_eq, i_lt, i_le, i_n0, i_0le, i_e0, i_0lt, i_le0, i_cl, bz_0, wp_s, lq_l, lq_r, if_true, if_false, ite_not, true_and, and_true, m_25_b11, v_kd hv, hC.2.2.1, v_rb hv, v_gb hv, hC.2.2.2.2.2, k_57, c_105' hTJ hgJ (BL_in hp), r_55_3, g_56]
    split
    · rename_i e
      simp (disch := omega) only [o_b1_s, o_b2_s, o_b3_s, o_b4_s, o_s1_s, o_s2_l, o_s2_r, o_g_t, i_add, i_mul, i_sub, i_and, i_or, i_xor, i_sd, i_shl, Nat.one_mul, i_eq, i_lt, i_le, i_n0, i_0le, i_e0, i_0lt, i_le0, i_cl, bz_0, wp_s, lq_l, lq_r, if_true, if_false, ite_not, true_and, and_true]
      refine ⟨_, rfl, fun c hc => by rw [up_ne hc]; exact h1 c hc, fun j hj => ?_⟩
      rw [up_eq]
      by_cases e1 : j = (BL V).getD p 0
      · rw [e1, up_eq, if_pos (by omega)]
        unfold irow
        rw [inq_t hb.2 e, if_pos rfl]
      · rw [up_ne e1, h2 j hj]
        by_cases e2 : j < (BL V).getD p 0
        · rw [if_pos e2, if_pos (by omega)]
        · rw [if_neg e2, if_neg (by omega)]
    · rename_i e
      simp (disch := omega) only [o_b1_s, o_b2_s, o_b3_s, o_b4_s, o_s1_s, o_s2_l, o_s2_r, o_g_t, i_add, i_mul, i_sub, i_and, i_or, i_xor, i_sd, i_shl, Nat.one_mul, i_eq, i_lt, i_le, i_n0, i_0le, i_e0, i_0lt, i_le0, i_cl, bz_0, wp_s, lq_l, lq_r, if_true, if_false, ite_not, true_and, and_true]
      refine ⟨_, rfl, h1, fun j hj => ?_⟩
      rw [h2 j hj]
      by_cases e1 : j = (BL V).getD p 0
      · rw [e1, if_neg (Nat.lt_irrefl _), if_pos (by omega)]
        unfold irow
        rw [inq_f (Or.inr e)]
        rfl
      · by_cases e2 : j < (BL V).getD p 0
        · rw [if_pos e2, if_pos (by omega)]
        · rw [if_neg e2, if_neg (by omega)]
  · rintro J ⟨h1, h2⟩
    have hC : CS J v n r V := CS_cong (fun _ _ => rfl) (h1 _ (by omega)) (h1 _ (by omega)) (h1 _ (by omega)) (h1 _ (by omega)) h
    simp (disch := omega) only [if_pos, if_neg, o_b1_s, o_b2_s, o_b3_s, o_b4_s, o_s1_s, o_s2_l, o_s2_r, o_g_t, i_add, i_mul, i_sub, i_and, i_or, i_xor, i_sd, i_shl, Nat.one_mul, i_eq, i_lt, i_le, i_n0, i_0le, i_e0, i_0lt, i_le0, i_cl, bz_0, wp_s, lq_l, lq_r, if_true, if_false, ite_not, true_and, and_true, m_25_b11, v_kd hv, hC.2.2.1, m_25_x11_50, r_55_3]
    exact ⟨h1, fun k hk => by rw [h2 k hk, if_pos hk]⟩
end
theorem inq_one {p : Nat → Bool} {w a b : Nat} (h1 : p a = true) (h2 : fln p a = w) (h3 : p b = true) (h4 : fln p b = w) : a = b := by
  have key : ∀ x y, x < y → p x = true → fln p x = w → fln p y = w → False := fun x y hxy e1 e2 e3 => by
    have h := fq_t e1
    have h2 := fln_mono (p := p) (y - (x + 1)) (x + 1) y (by omega)
    omega
  by_cases c : a < b
  · exact (key a b c h1 h2 h4).elim
  · by_cases c2 : b < a
    · exact (key b a c2 h3 h4 h2).elim
    · omega
theorem inq_not {p : Nat → Bool} {w a : Nat} (ha : a < 256) (h1 : p a = true) (h2 : fln p a = w) (h3 : fln p 256 ≤ w) : False := by
  have h := fq_t h1
  have h4 := fln_mono (p := p) (256 - (a + 1)) (a + 1) 256 (by omega)
  omega
