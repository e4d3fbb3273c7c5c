/-! Call drawn. -/
def xq (x : Nat) : Nat → Nat
  | 0 => x
  | m + 1 => nx (xq x m)
theorem xq_lt {x : Nat} (hx : x < 65536) : ∀ m, xq x m < 65536
  | 0 => hx
  | m + 1 => nx_lt _
/-- the prices of the k-th time -/
def dp (x k e : Nat) : Int32 := nI (xq x (8 * k + e + 1) % 21) - nI 10
theorem dp_b21 : ∀ m, m < 21 → (-1000 : Int32) ≤ nI m - nI 10 ∧ nI m - nI 10 ≤ 1000 := by decide
theorem dp_b (x k : Nat) : ∀ e, e < 8 → -1000 ≤ dp x k e ∧ dp x k e ≤ 1000 := fun e _ => dp_b21 _ (Nat.mod_lt _ (by decide))
theorem NX_cong {V S V2 S2 : Nat → Int32} (hB : BL V = BL V2) (hS : ∀ x, x ∈ BL V → S x = S2 x) {a : Nat} (ha : a ∈ BL V) : ∀ {o : Option Nat}, NX V S a o → NX V2 S2 a o
  | none, h => fun c hc hn => by
    rw [← hB] at hc
    rw [← hS c hc, ← hS a ha]
    exact h c hc hn
  | some b, ⟨h1, h2, h3, h4⟩ => by
    refine ⟨by rw [← hB]; exact h1, h2, by rw [← hS b h1, ← hS a ha]; exact h3, fun c hc hn => ?_⟩
    rw [← hB] at hc
    rw [← hS c hc, ← hS b h1]
    exact h4 c hc hn
theorem grd_cong {V S V2 S2 : Nat → Int32} (hB : BL V = BL V2) (hS : ∀ x, x ∈ BL V → S x = S2 x) : ∀ {k a b : Nat}, a ∈ BL V → grd V S k a b → grd V2 S2 k a b
  | 0, a, b, ha, ⟨h1, h2⟩ => ⟨h1, NX_cong hB hS ha h2⟩
  | k + 1, a, b, ha, ⟨c, h1, h2⟩ => ⟨c, NX_cong hB hS ha h1, grd_cong hB hS h1.1 h2⟩
theorem grd_in {V S : Nat → Int32} : ∀ {k a b : Nat}, a ∈ BL V → grd V S k a b → b ∈ BL V
  | 0, a, b, ha, ⟨h1, _⟩ => by rw [← h1]; exact ha
  | k + 1, a, b, ha, ⟨c, h1, h2⟩ => grd_in h1.1 h2
theorem gs_cong {S S2 : Nat → Int32} {l : List Nat} (h : ∀ x, x ∈ l → S x = S2 x) : gs S l = gs S2 l := fd_congr (fun x hx a => by
  show mx a (S x) = mx a (S2 x)
  rw [h x hx])
/-- whether the k-th time comes to a greatest one -/
def dar (V : Nat → Int32) (x k : Nat) : Prop := arv V (fun z => V z + prs (dp x k) z) (gs (fun z => V z + prs (dp x k) z) (BL V)) ((BL V).getD 0 0)
theorem c_drawn {I : ai_I} {t L v n r x0 m : Nat} {V : Nat → Int32} (hv : v ∈ VC) (hW : WF n r V) (h : CS I v n r V) (hx : x0 < 65536) (hm : m ≤ 60) : wp (lp (fun s => m_176_b41 1 (nI m) (Rc t) (Gc L) v s.1 s.2.1 s.2.2.1 s.2.2.2) o_N (nI x0, nI 0, nI 0, I)) (fun q => q.1 = nI (fln (cl (dar V x0)) m) ∧ ∀ c, ¬ c = 57 → ¬ c = 58 → ¬ c = 74 → q.2 c = I c) := by
  have hpos := BL_pos hW
  have hvv := vc_51 v hv
  have hb0 := BL_at hpos
  refine wp_lp (fun i s => ∃ J, s = (nI (xq x0 (8 * i)), nI (fln (cl (dar V x0)) i), nI i, J) ∧ ∀ c, ¬ c = 57 → ¬ c = 58 → ¬ c = 74 → J c = I c) 0 m (Nat.zero_le _) (by omega) ⟨I, rfl, fun _ _ _ _ => rfl⟩ ?_ ?_
  · rintro i _ hi ⟨J, rfl, hJ⟩
    simp (disch := omega) only [if_pos, if_neg, o_b1_s, o_b2_s, o_b3_s, o_b4_s, o_s1_s, o_s2_l, o_s2_r, o_g_t, i_add, i_mul, i_sub, i_and, i_or, i_xor, i_sd, i_shl, Nat.one_mul, i_eq, i_lt, i_le, i_n0, i_0le, i_e0, i_0lt, i_le0, i_cl, bz_0, wp_s, lq_l, lq_r, if_true, if_false, ite_not, true_and, and_true, m_176_b41]
    refine wp_s1 (wp_lp (fun e s => ∃ K, s = (nI (xq x0 (8 * i + e)), nI e, K) ∧ (∀ c, ¬ c = 57 → ¬ c = 58 → ¬ c = 74 → K c = I c) ∧ ∀ j, j < e → K 74 j = dp x0 i j) 0 8 (Nat.zero_le _) (by omega) ⟨J, rfl, hJ, fun j hj => absurd hj (Nat.not_lt_zero _)⟩ ?_ ?_)
    · rintro e _ he ⟨K, rfl, hK, hp⟩
      have hlt := nx_lt (xq x0 (8 * i + e))
      simp (disch := omega) only [if_pos, if_neg, o_b1_s, o_b2_s, o_b3_s, o_b4_s, o_s1_s, o_s2_l, o_s2_r, o_g_t, i_add, i_mul, i_sub, i_and, i_or, i_xor, i_sd, i_shl, Nat.one_mul, i_eq, i_lt, i_le, i_n0, i_0le, i_e0, i_0lt, i_le0, i_cl, bz_0, wp_s, lq_l, lq_r, if_true, if_false, ite_not, true_and, and_true, m_176_b50, c_184, r_1_14, g_74]
      rw [pk_rem (by omega) (by decide) (by decide)]
      refine ⟨_, rfl, fun c h1 h2 h3 => by rw [up_ne h3]; exact hK c h1 h2 h3, fun j hj => ?_⟩
      rw [up_eq]
      by_cases e1 : j = e
      · rw [e1, up_eq]
        rfl
      · rw [up_ne e1]
        exact hp j (by omega)
    · rintro _ ⟨K, rfl, hK, hp⟩
      have hCK : CS K v n r V := CS_cong (fun _ _ => rfl) (hK _ (by omega) (by omega) (by omega)) (hK _ (by omega) (by omega) (by omega)) (hK _ (by omega) (by omega) (by omega)) (hK _ (by omega) (by omega) (by omega)) h
      obtain ⟨M, m1, m2, m3, m4⟩ := c_104 (t := t) (L := L) (p := 74) hv hW hCK rfl rfl (by decide)
      have hpr : prs (K 74) = prs (dp x0 i) := funext (fun z => prs_cong hp z)
      rw [hpr] at m3 m4
      have hCM : CS M v n r V := CS_cong (fun _ _ => rfl) (m2 _ (by omega) (by omega)) (m2 _ (by omega) (by omega)) (m2 _ (by omega) (by omega)) (m2 _ (by omega) (by omega)) hCK
      simp (disch := omega) only [if_pos, if_neg, o_b1_s, o_b2_s, o_b3_s, o_b4_s, o_s1_s, o_s2_l, o_s2_r, o_g_t, i_add, i_mul, i_sub, i_and, i_or, i_xor, i_sd, i_shl, Nat.one_mul, i_eq, i_lt, i_le, i_n0, i_0le, i_e0, i_0lt, i_le0, i_cl, bz_0, wp_s, lq_l, lq_r, if_true, if_false, ite_not, true_and, and_true, m_176_b50, m_176_x50_85, r_1_8, k_57, r_1_14]
      rw [m1]
      simp (disch := omega) only [if_pos, if_neg, o_b1_s, o_b2_s, o_b3_s, o_b4_s, o_s1_s, o_s2_l, o_s2_r, o_g_t, i_add, i_mul, i_sub, i_and, i_or, i_xor, i_sd, i_shl, Nat.one_mul, i_eq, i_lt, i_le, i_n0, i_0le, i_e0, i_0lt, i_le0, i_cl, bz_0, wp_s, lq_l, lq_r, if_true, if_false, ite_not, true_and, and_true, v_kd hv, v_rb hv, v_gb hv, hCM.2.2.2.2.2]
      refine wp_b1 (wp_mono (c_106 (t := t) (L := L) hv hW hCM m3 (S_gt hW (dp_b x0 i)) (BL_in hpos)) ?_)
      rintro N ⟨n1, n2, g, b, hg, hbB, n3, n4, -⟩
      have hb2 := BL_mem.1 hbB
      have hbS : N 58 b = V b + prs (dp x0 i) b := by rw [n1 58 (by decide), m3 b hb2.1, if_pos hb2.2]
      have hgr : N 57 1 = gs (fun z => V z + prs (dp x0 i) z) (BL V) := by rw [n2 1 (by decide) (by decide), m4]
      rw [n3, c_105 hb2.1, o_b1_s, c_182, o_b1_s, hbS, hgr]
      have fr : ∀ c, ¬ c = 57 → ¬ c = 58 → ¬ c = 74 → N c = I c := fun c h1 h2 h3 => (n1 c h1).trans ((m2 c h1 h2).trans (hK c h1 h2 h3))
      by_cases e : V b + prs (dp x0 i) b = gs (fun z => V z + prs (dp x0 i) z) (BL V)
      · rw [bz_t e]
        simp (disch := omega) only [o_b1_s, o_b2_s, o_b3_s, o_b4_s, o_s1_s, o_s2_l, o_s2_r, o_g_t, i_add, i_mul, i_sub, i_and, i_or, i_xor, i_sd, i_shl, Nat.one_mul, i_eq, i_lt, i_le, i_n0, i_0le, i_e0, i_0lt, i_le0, i_cl, bz_0, wp_s, lq_l, lq_r, if_true, if_false, ite_not, true_and, and_true]
        refine ⟨N, ?_, fr⟩
        rw [fln_t (p := dar V x0) ⟨BL_in hpos, g, b, hg, e⟩]
        rfl
      · rw [bz_f e]
        simp (disch := omega) only [o_b1_s, o_b2_s, o_b3_s, o_b4_s, o_s1_s, o_s2_l, o_s2_r, o_g_t, i_add, i_mul, i_sub, i_and, i_or, i_xor, i_sd, i_shl, Nat.one_mul, i_eq, i_lt, i_le, i_n0, i_0le, i_e0, i_0lt, i_le0, i_cl, bz_0, wp_s, lq_l, lq_r, if_true, if_false, ite_not, true_and, and_true]
        refine ⟨N, ?_, fr⟩
        rw [fln_f (p := dar V x0) (fun h9 => by
          obtain ⟨-, g2, b2, hg2, e2⟩ := h9
          rw [(grd_one _ _ _ _ _ hg hg2).2] at e
          exact e e2)]
        rfl
  · rintro _ ⟨J, rfl, hJ⟩
    simp (disch := omega) only [if_pos, if_neg, o_b1_s, o_b2_s, o_b3_s, o_b4_s, o_s1_s, o_s2_l, o_s2_r, o_g_t, i_add, i_mul, i_sub, i_and, i_or, i_xor, i_sd, i_shl, Nat.one_mul, i_eq, i_lt, i_le, i_n0, i_0le, i_e0, i_0lt, i_le0, i_cl, bz_0, wp_s, lq_l, lq_r, if_true, if_false, ite_not, true_and, and_true, m_176_b41]
    exact hJ
/-- the reference's memory as it draws -/
def dw (I J : ai_I) : Prop := (∀ c, ¬ c = 76 → ¬ c = 75 → J c = I c) ∧ (∀ j, ¬ j = 21 → J 75 j = I 75 j) ∧ ∀ j, (j < 1032 ∨ 1040 < j) → J 76 j = I 76 j
theorem dw_FV {I J : ai_I} (h : dw I J) {k : Nat} (hk : k < 4) : ∀ j, j < 256 → FV J k j = FV I k j := fun j hj => h.2.2 _ (by omega)
theorem s_drawn {I : ai_I} {t L k n r x0 m : Nat} (hk : k < 4) (hW : WF n r (FV I k)) (hI : I 76 (258 * k) = nI n) (hx : x0 < 65536) (h0 : I 76 1040 = nI x0) (hm : m ≤ 60) : wp (lp (fun s => m_325_b32 75 (nI k) (nI m) (Rc t) (Gc L) s.1 s.2.1 s.2.2) o_N (nI 0, nI 0, I)) (fun q => q.1 = nI (fln (cl (dar (FV I k) x0)) m) ∧ dw I q.2) := by
  have hpos := BL_pos hW
  have hb0 := BL_at hpos
  refine wp_lp (fun i s => ∃ J, s = (nI (fln (cl (dar (FV I k) x0)) i), nI i, J) ∧ dw I J ∧ J 76 1040 = nI (xq x0 (8 * i))) 0 m (Nat.zero_le _) (by omega) ⟨I, rfl, ⟨fun _ _ _ => rfl, fun _ _ => rfl, fun _ _ => rfl⟩, h0⟩ ?_ ?_
  · rintro i _ hi ⟨J, rfl, hJ, hx1⟩
    simp (disch := omega) only [if_pos, if_neg, o_b1_s, o_b2_s, o_b3_s, o_b4_s, o_s1_s, o_s2_l, o_s2_r, o_g_t, i_add, i_mul, i_sub, i_and, i_or, i_xor, i_sd, i_shl, Nat.one_mul, i_eq, i_lt, i_le, i_n0, i_0le, i_e0, i_0lt, i_le0, i_cl, bz_0, wp_s, lq_l, lq_r, if_true, if_false, ite_not, true_and, and_true, m_325_b32]
    refine wp_s1 (wp_lp (fun e s => ∃ K, s = (nI e, K) ∧ dw I K ∧ K 76 1040 = nI (xq x0 (8 * i + e)) ∧ ∀ j, j < e → K 76 (1032 + j) = dp x0 i j) 0 8 (Nat.zero_le _) (by omega) ⟨J, rfl, hJ, hx1, fun j hj => absurd hj (Nat.not_lt_zero _)⟩ ?_ ?_)
    · rintro e _ he ⟨K, rfl, hK, hx2, hp⟩
      have hlt := nx_lt (xq x0 (8 * i + e))
      simp (disch := omega) only [if_pos, if_neg, o_b1_s, o_b2_s, o_b3_s, o_b4_s, o_s1_s, o_s2_l, o_s2_r, o_g_t, i_add, i_mul, i_sub, i_and, i_or, i_xor, i_sd, i_shl, Nat.one_mul, i_eq, i_lt, i_le, i_n0, i_0le, i_e0, i_0lt, i_le0, i_cl, bz_0, wp_s, lq_l, lq_r, if_true, if_false, ite_not, true_and, and_true, m_325_b41]
      rw [s_322 (xq_lt hx _) hx2 (by decide) (by decide), o_b2_s]
      simp (disch := omega) only [if_pos, if_neg, o_b1_s, o_b2_s, o_b3_s, o_b4_s, o_s1_s, o_s2_l, o_s2_r, o_g_t, i_add, i_mul, i_sub, i_and, i_or, i_xor, i_sd, i_shl, Nat.one_mul, i_eq, i_lt, i_le, i_n0, i_0le, i_e0, i_0lt, i_le0, i_cl, bz_0, wp_s, lq_l, lq_r, if_true, if_false, ite_not, true_and, and_true, r_75_0, g_76]
      refine ⟨_, rfl, ⟨fun c h1 h2 => by rw [up_ne h1, up_ne h1]; exact hK.1 c h1 h2, fun j hj => by rw [up_ne (by decide), up_ne (by decide)]; exact hK.2.1 j hj, fun j hj => by rw [up_eq, up_ne (by omega), up_eq, up_ne (by omega)]; exact hK.2.2 j hj⟩, ?_, fun j hj => ?_⟩
      · rw [up_eq, up_ne (by omega), up_eq, up_eq]
        rfl
      · rw [up_eq]
        by_cases e1 : j = e
        · rw [e1, up_eq]
          rfl
        · rw [up_ne (by omega), up_eq, up_ne (by omega)]
          exact hp j (by omega)
    · rintro _ ⟨K, rfl, hK, hx2, hp⟩
      have hF := dw_FV hK hk
      have hB : BL (FV K k) = BL (FV I k) := BL_cong hF
      have hWK : WF n r (FV K k) := WF_cong (fun j hj => (hF j hj).symm) hW
      have hpr : prs (RP K) = prs (dp x0 i) := funext (fun z => prs_cong hp z)
      have hSS : ∀ z, z ∈ BL (FV K k) → FV K k z + prs (RP K) z = FV I k z + prs (dp x0 i) z := fun z hz => by rw [hF z (BL_mem.1 hz).1, hpr]
      simp (disch := omega) only [if_pos, if_neg, o_b1_s, o_b2_s, o_b3_s, o_b4_s, o_s1_s, o_s2_l, o_s2_r, o_g_t, i_add, i_mul, i_sub, i_and, i_or, i_xor, i_sd, i_shl, Nat.one_mul, i_eq, i_lt, i_le, i_n0, i_0le, i_e0, i_0lt, i_le0, i_cl, bz_0, wp_s, lq_l, lq_r, if_true, if_false, ite_not, true_and, and_true, m_325_b41, m_325_x41_74]
      rw [s_205 (by omega) hWK, o_b1_s]
      refine wp_b2 (wp_mono (s_269 (I := K) (t := t) (L := L) (s := k) (by omega) hWK (BL_in (BL_pos hWK))) ?_)
      rintro ⟨y, N⟩ ⟨n1, g, b, hg, hbB, n3, -⟩
      dsimp only at n1 n3
      have hbK := BL_mem.1 hbB
      have hg2 := grd_cong hB hSS (BL_in (BL_pos hWK)) hg
      rw [hB] at hg2
      have hgr : gs (fun z => FV K k z + prs (RP K) z) (BL (FV K k)) = gs (fun z => FV I k z + prs (dp x0 i) z) (BL (FV I k)) := by
        rw [gs_cong hSS, hB]
      have hbS := hSS b hbB
      have fr : dw I N := ⟨fun c h1 h2 => (n1.1 c h2).trans (hK.1 c h1 h2), fun j hj => (n1.2 j hj).trans (hK.2.1 j hj), fun j hj => by rw [n1.1 76 (by decide)]; exact hK.2.2 j hj⟩
      show wp (o_b1 (m_265 75 (nI k) y N (Rc t) (Gc L)) _) _
      rw [n3, s_265 (by omega) hbK.1, o_b1_s, s_266 (by omega), o_b1_s, o21_FV n1, o21_RP n1, hgr, hbS]
      by_cases e : FV I k b + prs (dp x0 i) b = gs (fun z => FV I k z + prs (dp x0 i) z) (BL (FV I k))
      · rw [if_pos e]
        simp (disch := omega) only [o_b1_s, o_b2_s, o_b3_s, o_b4_s, o_s1_s, o_s2_l, o_s2_r, o_g_t, i_add, i_mul, i_sub, i_and, i_or, i_xor, i_sd, i_shl, Nat.one_mul, i_eq, i_lt, i_le, i_n0, i_0le, i_e0, i_0lt, i_le0, i_cl, bz_0, wp_s, lq_l, lq_r, if_true, if_false, ite_not, true_and, and_true]
        refine ⟨N, ?_, fr, ?_⟩
        · rw [fln_t (p := dar (FV I k) x0) ⟨BL_in hpos, g, b, hg2, e⟩]
        · rw [n1.1 76 (by decide)]
          exact hx2
      · rw [if_neg e]
        simp (disch := omega) only [o_b1_s, o_b2_s, o_b3_s, o_b4_s, o_s1_s, o_s2_l, o_s2_r, o_g_t, i_add, i_mul, i_sub, i_and, i_or, i_xor, i_sd, i_shl, Nat.one_mul, i_eq, i_lt, i_le, i_n0, i_0le, i_e0, i_0lt, i_le0, i_cl, bz_0, wp_s, lq_l, lq_r, if_true, if_false, ite_not, true_and, and_true]
        refine ⟨N, ?_, fr, ?_⟩
        · rw [fln_f (p := dar (FV I k) x0) (fun h9 => by
            obtain ⟨-, g2, b2, hg3, e2⟩ := h9
            rw [(grd_one _ _ _ _ _ hg2 hg3).2] at e
            exact e e2)]
        · rw [n1.1 76 (by decide)]
          exact hx2
  · rintro _ ⟨J, rfl, hJ, hx1⟩
    simp (disch := omega) only [if_pos, if_neg, o_b1_s, o_b2_s, o_b3_s, o_b4_s, o_s1_s, o_s2_l, o_s2_r, o_g_t, i_add, i_mul, i_sub, i_and, i_or, i_xor, i_sd, i_shl, Nat.one_mul, i_eq, i_lt, i_le, i_n0, i_0le, i_e0, i_0lt, i_le0, i_cl, bz_0, wp_s, lq_l, lq_r, if_true, if_false, ite_not, true_and, and_true, m_325_b32]
    exact hJ
theorem j60_lit : (60 : Int64) = (nI 60).toInt64 := by decide +kernel
theorem op_drawn {I : ai_I} {t L : Nat} (h : ST I) (s x : Int32) : OPc I (m_176 1 s x I (Rc t) (Gc L)) (fun I1 => m_325 75 s x I1 (Rc t) (Gc L)) := by
  rcases x_cases s (n := 3) (by decide) with ⟨k, hk, rfl⟩ | hs
  · obtain ⟨n, r, hW, hC, hI, hIr⟩ := h.1 k (by omega)
    obtain ⟨x0, hx0, g1, g2⟩ := h.2.2.2.1
    have hv := vc_s (s := k) (by omega)
    by_cases hx : nI 1 ≤ x ∧ x ≤ nI 60
    · obtain ⟨m, hm, rfl⟩ : ∃ m, m ≤ 60 ∧ x = nI m := nI_of2 (nI_toInt (by decide)) (fun h1 => Int32.not_le.2 h1 (Int32.le_trans (by decide) hx.1)) hx.2
      obtain ⟨q, q1, q2, q3⟩ := c_drawn (t := t) (L := L) (I := I) (m := m) hv hW hC hx0 hm
      obtain ⟨J0, j1, j2, j3, j4⟩ := s_194 (I := q.2) (t := t) (L := L) (a := 0) (b := 2) (by decide) (by decide) (by decide)
      have h76 : q.2 76 = I 76 := q3 76 (by decide) (by decide) (by decide)
      have hlow : ∀ j, j < 2244 → J0 76 j = I 76 j := fun j hj => by rw [j3 j (by omega), h76]
      have hF : ∀ j, j < 256 → FV J0 k j = FV I k j := fun j hj => hlow _ (by omega)
      obtain ⟨p, p1, p2, p3⟩ := s_drawn (I := J0) (t := t) (L := L) (k := k) (n := n) (r := r) (x0 := x0) (m := m) (by omega) (WF_cong (fun j hj => (hF j hj).symm) hW) (by rw [hlow _ (by omega)]; exact hI) hx0 (by rw [hlow _ (by omega)]; exact g2) hm
      obtain ⟨K, k1, k2, k3, k4⟩ := s_194 (I := p.2) (t := t) (L := L) (a := 2) (b := 0) (by decide) (by decide) (by decide)
      have hd : fln (cl (dar (FV J0 k) x0)) m = fln (cl (dar (FV I k) x0)) m := by
        have hB : BL (FV J0 k) = BL (FV I k) := BL_cong hF
        have hSS : ∀ i z, z ∈ BL (FV J0 k) → FV J0 k z + prs (dp x0 i) z = FV I k z + prs (dp x0 i) z := fun i z hz => by rw [hF z (BL_mem.1 hz).1]
        have hSS2 : ∀ i z, z ∈ BL (FV I k) → FV I k z + prs (dp x0 i) z = FV J0 k z + prs (dp x0 i) z := fun i z hz => (hSS i z (by rw [hB]; exact hz)).symm
        have e : dar (FV J0 k) x0 = dar (FV I k) x0 := by
          funext i
          have eg : gs (fun z => FV J0 k z + prs (dp x0 i) z) (BL (FV J0 k)) = gs (fun z => FV I k z + prs (dp x0 i) z) (BL (FV I k)) := by rw [gs_cong (hSS i), hB]
          unfold dar
          rw [eg]
          apply propext
          constructor
          · rintro ⟨a1, g, b, a2, a3⟩
            have a4 := grd_cong hB (hSS i) a1 a2
            refine ⟨by rw [← hB]; exact a1, g, b, by rw [← hB]; exact a4, ?_⟩
            have hbB : b ∈ BL (FV J0 k) := grd_in a1 a2
            show FV I k b + prs (dp x0 i) b = _
            rw [← hSS i b hbB]
            exact a3
          · rintro ⟨a1, g, b, a2, a3⟩
            have a4 := grd_cong hB.symm (hSS2 i) a1 a2
            refine ⟨by rw [hB]; exact a1, g, b, by rw [hB]; exact a4, ?_⟩
            have hbB : b ∈ BL (FV I k) := grd_in a1 a2
            show FV J0 k b + prs (dp x0 i) b = _
            rw [← hSS2 i b hbB]
            exact a3
        rw [e]
      refine ⟨q.1, q.2, K, ?_, ?_, ⟨fun c hc => ?_, fun j hj => ?_, ?_, ?_, ?_, ?_⟩, q3 1999 (by decide) (by decide) (by decide)⟩
      · unfold m_176
        rw [r_1_0, k_2, o_g_t, c_96 (by omega), o_b1_s, if_neg (by omega), if_neg (Int32.not_lt.2 hx.1), if_pos hx.2, g1, o_b1_s, q1, o_s1_s]
        rfl
      · show m_325 75 (nI k) (nI m) q.2 (Rc t) (Gc L) = _
        unfold m_325
        rw [s_200, o_b1_s, q_bz, if_pos (nI_in03 hk), j1_lit, j60_lit, s_189i, o_b1_s, q_bz, if_pos hx, j1, o_b1_s, p1, o_s1_s]
        unfold m_325_x32_107
        rw [k1, o_b1_s, p2, hd, q2]
      · rw [k2 c (by omega), p3.1 c (by omega) (by omega), j2 c (by omega), q3 c (by omega) (by omega) (by omega)]
      · by_cases hj2 : j < 1122
        · have e1 := k4 j hj2
          have e2 := p3.2.2 (1122 * 2 + j) (by omega)
          have e3 := j4 j hj2
          rw [show 1122 * 0 + j = j by omega] at e1 e3
          rw [e1, e2, e3, h76]
        · rw [k3 j (by omega), p3.2.2 j (by omega)]
          exact hlow j hj
      · rw [k2 77 (by decide), p3.1 77 (by decide) (by decide), j2 77 (by decide), q3 77 (by decide) (by decide) (by decide)]
      · rw [k2 75 (by decide), p3.2.1 1 (by decide), j2 75 (by decide), q3 75 (by decide) (by decide) (by decide)]
      · rw [k2 75 (by decide), p3.2.1 3 (by decide), j2 75 (by decide), q3 75 (by decide) (by decide) (by decide)]
      · rw [k2 1999 (by decide), p3.1 1999 (by decide) (by decide), j2 1999 (by decide), q3 1999 (by decide) (by decide) (by decide)]
    · refine ⟨-1, I, I, ?_, ?_, SAME_rf, rfl⟩
      · unfold m_176
        rw [r_1_0, k_2, o_g_t, c_96 (by omega), o_b1_s, if_neg (by omega)]
        by_cases h1 : x < nI 1
        · rw [if_pos h1]
        · rw [if_neg h1, if_neg (fun h2 => hx ⟨Int32.not_lt.1 h1, h2⟩)]
      · show m_325 75 (nI k) x I (Rc t) (Gc L) = _
        unfold m_325
        rw [s_200, o_b1_s, q_bz, if_pos (nI_in03 hk), j1_lit, j60_lit, s_189i, o_b1_s, q_bz, if_neg hx]
  · refine ⟨-1, I, I, ?_, ?_, SAME_rf, rfl⟩
    · unfold m_176
      rw [r_1_0, k_2, o_g_t, c_96o hs, o_b1_s, if_pos rfl]
    · show m_325 75 s x I (Rc t) (Gc L) = _
      unfold m_325
      rw [s_200, o_b1_s, q_bz, if_neg hs]
