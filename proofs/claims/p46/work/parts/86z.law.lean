/-! The law is kept. -/
theorem rf_in5 : ∀ a, a < 75 → ∀ j, j < 20 → rf fCls a j = Rc 44 a j := by decide +kernel
theorem rf_all5 : ∀ e ∈ fCls, e.1 < 75 ∧ e.2.1 < 20 := by decide +kernel
theorem rL_ln5 : rL.length ≤ 75 := by decide
theorem rL_rw5 : ∀ a, a < 75 → (rL.getD a []).length ≤ 20 := by decide +kernel
theorem rf_end5 : rf fCls = Rc 44 := by
  funext a j
  by_cases c : a < 75 ∧ j < 20
  · exact rf_in5 a c.1 j c.2
  · have h1 : rf fCls a j = 0 := rf_out (fun e he hh => c (by
      have := rf_all5 e he
      rw [hh.1, hh.2] at this
      exact this))
    have h2 : Rc 44 a j = 0 := by
      unfold Rc
      rw [if_neg (fun h => c ⟨by omega, by omega⟩)]
      by_cases d : a < 75
      · exact getD_hi (Nat.le_trans (rL_rw5 a d) (by omega))
      · rw [show rL.getD a [] = [] from getD_hi (Nat.le_trans rL_ln5 (by omega))]
        rfl
    rw [h1, h2]
theorem gk_end5 {L : Nat} : Gk L 74 = Gc (Gk L 74) := by
  have e1 : (Gk L 74).1 = (Gc (Gk L 74)).1 := by
    funext a
    show (if a = 1999 then 16 else if a ≤ 74 then kL.getD a 99 else 99) = if a ≤ 74 then kL.getD a 99 else (if a = 1999 then 16 else if a ≤ 74 then kL.getD a 99 else 99)
    by_cases c : a ≤ 74
    · rw [if_pos c, if_neg (by omega), if_pos c]
    · simp only [if_neg c]
  have e2 : (Gk L 74).2.1 = (Gc (Gk L 74)).2.1 := by
    funext a
    show (if a = 1999 then L else if a ≤ 74 then nL.getD a 0 else 0) = if a ≤ 74 then nL.getD a 0 else (if a = 1999 then L else if a ≤ 74 then nL.getD a 0 else 0)
    by_cases c : a ≤ 74
    · rw [if_pos c, if_neg (by omega), if_pos c]
    · simp only [if_neg c]
  show ((Gk L 74).1, (Gk L 74).2.1, (Gk L 74).2.2) = ((Gc (Gk L 74)).1, (Gc (Gk L 74)).2.1, (Gk L 74).2.2)
  rw [← e1, ← e2]
theorem gc_len {M : ai_G} : (Gc M).2.1 1999 = M.2.1 1999 := by
  show (if 1999 ≤ 74 then nL.getD 1999 0 else M.2.1 1999) = _
  rw [if_neg (by decide)]
/-- what may still be made -/
def Bge (B : Nat × Nat) (a b : Nat) : Prop := a ≤ B.1 ∧ b ≤ B.2
theorem Bge_s {B : Nat × Nat} {a b x y c d : Nat} (h : Bge B a b) (h1 : c + x ≤ a) (h2 : d + y ≤ b) : Bge (B.1 - x, B.2 - y) c d := ⟨by have := h.1; dsimp only; omega, by have := h.2; dsimp only; omega⟩
theorem bd_o {B : Nat × Nat} {a b x y : Nat} (h : Bge B a b) (h1 : x ≤ a) (h2 : y ≤ b) : o_bd B x y = true := bd_t ⟨Nat.le_trans h1 h.1, Nat.le_trans h2 h.2⟩
theorem BL_V0 : (BL V0).length = 2 := by decide +kernel
/-- ahead of round q -/
def LW (N r q : Nat) (I : ai_I) (R : ai_R) (G : ai_G) (B : Nat × Nat) : Prop := (∃ t, R = Rc t) ∧ ∃ M A, G = Gc M ∧ 74 ≤ M.2.2 ∧ M.2.2 ≤ 100 + 40 * q ∧ M.2.1 1999 = N ∧ ary M r 1 ∧ KA I A ∧ I 1 4 = nI 0 ∧ Bge B (43 * (6 - q)) (1028 * (6 - q))
theorem k_round {I : ai_I} {R : ai_R} {G : ai_G} {B : Nat × Nat} {N r q : Nat} {y : Int32} {Q : Int32 × ai_I × ai_R × ai_G × Nat × Nat → Prop} (hq : q < 6) (h : LW N r q I R G B) : wp (m_133_j134 1 r (nI 1) (nI q) I R G B y) (lq (fun z => z.1 = nI 1 ∧ z.2.1 = nI (q + 1) ∧ LW N r (q + 1) z.2.2.1 z.2.2.2.1 z.2.2.2.2.1 z.2.2.2.2.2) Q) := by
  obtain ⟨⟨t, rfl⟩, M, A, rfl, h1, h2, h3, h4, h5, h6, h7⟩ := h
  have hr1 := h4.1
  have hr2 := h4.2.1
  obtain ⟨c, hc⟩ : ∃ c, c = 6 - q - 1 := ⟨_, rfl⟩
  have hB : Bge B (43 + 43 * c) (1028 + 1028 * c) := by
    rw [show 6 - q = c + 1 by omega] at h7
    exact ⟨by have := h7.1; omega, by have := h7.2; omega⟩
  unfold m_133_j134
  rw [ay_in h4 (by decide) (by decide), o_g_t, o_b1_s]
  have hJ : ot I (va_up I r (va_up (I r) (nI 0).toNatClampNeg ((I r (nI 0).toNatClampNeg) ^^^ y))) r := fun c hc => up_ne hc
  generalize va_up I r (va_up (I r) (nI 0).toNatClampNeg ((I r (nI 0).toNatClampNeg) ^^^ y)) = J at hJ
  refine wp_b2 (wp_mono (k_next h4) ?_)
  rintro ⟨v, J1⟩ ⟨v1, a1, a2, a3⟩
  dsimp only at a2 a3 ⊢
  subst a2
  rw [k_rem (by omega) (by decide) (by decide), i_add, o_b1_s]
  have hn := Nat.mod_lt v1 (show 0 < 4 by decide)
  obtain ⟨n, hnn⟩ : ∃ n, n = 3 + v1 % 4 := ⟨_, rfl⟩
  rw [← hnn]
  refine wp_b2 (wp_mono (k_next h4) ?_)
  rintro ⟨v, J2⟩ ⟨v2, b1, b2, b3⟩
  dsimp only at b2 b3 ⊢
  subst b2
  rw [k_rem (by omega) (by decide) (by decide), o_b1_s]
  have hs := Nat.mod_lt v2 (show 0 < 4 by decide)
  generalize v2 % 4 = s at hs
  refine wp_b2 (wp_mono (k_next h4) ?_)
  rintro ⟨v, J3⟩ ⟨v3, c1, c2, c3⟩
  dsimp only at c2 c3 ⊢
  subst c2
  rw [k_rem (by omega) (by decide) (by decide)]
  have hk := Nat.mod_lt v3 (show 0 < 4 by decide)
  generalize v3 % 4 = kind at hk
  have f3 : ot I J3 r := fun c hc => (c3 c hc).trans ((b3 c hc).trans ((a3 c hc).trans (hJ c hc)))
  have hKA3 : KA J3 A := KA_f h5 (fun c _ _ => f3 c (by omega))
  refine wp_b4 (wp_mono (k_made (tt := t) (n := n) hKA3 h1 (by omega) h4 (by rw [f3 1 (by omega)]; exact h6) hs (by omega) (by omega) hk) ?_)
  rintro ⟨w, I1, R1, G1⟩ ⟨hi, d1, d2, d3, L1, d4, d5, d6, d7, d8, d9, A1, d10, d11, d12, d13⟩
  dsimp only at d3 d4 d7 d8 d9 d10 ⊢
  subst d3
  subst d4
  subst d7
  rw [bd_o hB (by omega) (by omega), o_g_t, o_b1_s]
  have hB1 : Bge (B.1 - 16, B.2 - 316) (27 + 43 * c) (712 + 1028 * c) := Bge_s hB (by omega) (by omega)
  generalize (B.1 - 16, B.2 - 316) = B1 at hB1
  have e4 := d5.2.1 r 1 h4
  have z1 := d5.1
  refine wp_b3 (wp_mono (k_priced (t := 42) d10 (by omega) (by omega) e4) ?_)
  rintro ⟨p, I2, G2⟩ ⟨p1, p2, p3, P, p4, p5⟩
  dsimp only at p1 p2 p3 p4 p5 ⊢
  subst p2
  rw [bd_o hB1 (by omega) (by omega), o_g_t, o_b1_s]
  have hB2 : Bge (B1.1 - 1, B1.2 - 8) (26 + 43 * c) (704 + 1028 * c) := Bge_s hB1 (by omega) (by omega)
  generalize (B1.1 - 1, B1.2 - 8) = B2 at hB2
  have hp : ary (nw L1 8) p 8 := by
    rw [p1]
    exact nw_new (by omega)
  have e5 := nw_old (n := 8) e4
  have z2 : (nw L1 8).2.2 = L1.2.2 + 1 := nw_z
  have x2 : EX M (nw L1 8) := EX_tr d5 (EX_nw (by omega))
  generalize nw L1 8 = L2 at hp e5 z2 x2
  refine wp_b3 (wp_mono (k_values (t := 42) (L := L2) p4 hs (by omega) (by omega)) ?_)
  rintro ⟨v, I3, G3⟩ ⟨q1, q2, q3, q4⟩
  dsimp only at q1 q2 q3 q4 ⊢
  subst q2
  rw [bd_o hB2 (by omega) (by omega), o_g_t, o_b1_s]
  have hB3 : Bge (B2.1 - 1, B2.2 - 256) (25 + 43 * c) (448 + 1028 * c) := Bge_s hB2 (by omega) (by omega)
  generalize (B2.1 - 1, B2.2 - 256) = B3 at hB3
  have hv : ary (nw L2 256) v 256 := by
    rw [q1]
    exact nw_new (by omega)
  have e6 := nw_old (n := 256) e5
  have hp3 := nw_old (n := 256) hp
  have z3 : (nw L2 256).2.2 = L2.2.2 + 1 := nw_z
  have x3 : EX M (nw L2 256) := EX_tr x2 (EX_nw (by omega))
  generalize nw L2 256 = L3 at hv e6 hp3 z3 x3
  have hA3 : KA I3 (A1.1, A1.2.1, A1.2.2.1, P) := KA_f p4 (fun c _ _ => q3 c (by omega))
  have hV3 : HV I3 v (A1.2.2.1 s) := by
    rw [q1]
    exact q4
  have hP3 : ∀ e, e < 8 → I3 p e = P e := fun e he => by
    rw [q3 p (by omega), p1]
    exact p5 e he
  have h14 : I3 1 4 = nI 0 := by rw [q3 1 (by omega), p3 1 (by decide) (by omega) (by omega)]; exact d8
  have hi0 : ¬ nI hi ≤ 0 := fun h9 => by
    rw [i_le0 (by omega)] at h9
    omega
  rw [q_10, if_neg hi0, k_bases (t := 42) (A := (A1.1, A1.2.1, A1.2.2.1, P)) hA3 hs hv hV3 d11 d12, o_b2_s, q_10]
  refine wp_b2 (wp_mono (k_faults (t := 42) (A := (A1.1, A1.2.1, A1.2.2.1, P)) hA3 hs e6 hv (by omega) hV3) ?_)
  rintro ⟨u, I4⟩ ⟨u1, u2⟩
  dsimp only at u1 u2 ⊢
  rw [u1, q_10]
  have hA4 : KA I4 (A1.1, A1.2.1, A1.2.2.1, P) := KA_smr hA3 hr1 u2
  have hV4 := HV_smr hV3 hv.1 (by omega) u2
  have hP4 : ∀ e, e < 8 → I4 p e = P e := fun e he => by
    rw [u2 p (Or.inr hp.1) (by omega)]
    exact hP3 e he
  refine wp_b3 (wp_mono (k_greedys (t := 42) (A := (A1.1, A1.2.1, A1.2.2.1, P)) hA4 hs hv hp3 hV4 hP4 (by omega) (by omega)) ?_)
  rintro ⟨u, I5, G5⟩ ⟨w1, w2, w3⟩
  dsimp only at w1 w2 w3 ⊢
  subst w2
  rw [bd_o hB3 (by omega) (by omega), o_g_t, o_b1_s, w1, q_10]
  have hB4 : Bge (B3.1 - 1, B3.2 - 256) (24 + 43 * c) (192 + 1028 * c) := Bge_s hB3 (by omega) (by omega)
  generalize (B3.1 - 1, B3.2 - 256) = B4 at hB4
  have hA5 : KA I5 (A1.1, A1.2.1, A1.2.2.1, P) := KA_smr hA4 (by omega) w3
  have hV5 := HV_smr hV4 hv.1 (by have := hv.2.1; omega) w3
  have hP5 : ∀ e, e < 8 → I5 p e = P e := fun e he => by
    rw [w3 p (Or.inr hp.1) (by have := hp3.2.1; omega)]
    exact hP4 e he
  have hv5 := nw_old (n := 256) hv
  have hp5 := nw_old (n := 256) hp3
  have e7 := nw_old (n := 256) e6
  have z5 : (nw L3 256).2.2 = L3.2.2 + 1 := nw_z
  have x5 : EX M (nw L3 256) := EX_tr x3 (EX_nw (by omega))
  generalize nw L3 256 = L5 at hv5 hp5 e7 z5 x5
  refine wp_b3 (wp_mono (k_spaces (t := 42) (A := (A1.1, A1.2.1, A1.2.2.1, P)) hA5 hs d11 d12 (by omega) hv5 hV5 hp5 hP5 (by omega) (by omega)) ?_)
  rintro ⟨u, I6, G6⟩ ⟨y1, ⟨L6, y2, y3, y4⟩, y5⟩
  dsimp only at y1 y2 y5 ⊢
  subst y2
  rw [bd_o hB4 (by omega) (by omega), o_g_t, o_b1_s, y1, q_10, k_1, o_g_t]
  have hB5 : Bge (B4.1 - 24, B4.2 - 192) (43 * c) (1028 * c) := Bge_s hB4 (by omega) (by omega)
  generalize (B4.1 - 24, B4.2 - 192) = B5 at hB5
  have hA6 : KA I6 (A1.1, A1.2.1, A1.2.2.1, P) := KA_sk hA5 y5
  have hp1 := hp5.1
  have hp2 := hp5.2.1
  have x6 : EX M L6 := EX_tr x5 y3
  have hp6 := y3.2.1 p 8 hp5
  have b3 : (-1000 : Int32) ≤ nI 7 := by decide
  have b4 : nI 7 ≤ nI 1000 := by decide
  rw [k_price (t := 42) (L := L6) (e := 3) (by decide) b3 b4, o_b2_s, ay_in hp6 (by decide) (by decide), o_g_t, i_cl (by decide)]
  have hcmp : I6 4 3 = va_up I6 4 (va_up (I6 4) 3 (nI 7)) p 3 := by
    rw [up_ne (by omega), (KA_p hA6 3 (by decide)).1, y5 p (Or.inr (Or.inl ⟨hp1, hp2⟩))]
    exact (hP5 3 (by decide)).symm
  rw [if_pos hcmp, i_add, o_b1_s, wp_s, lq_l]
  refine ⟨rfl, rfl, ⟨42, rfl⟩, L6, _, rfl, by have := y3.1; omega, by omega, by rw [x6.2.2]; exact h3, y3.2.1 r 1 e7, KA_price hA6 (by decide) b3 b4, ?_, by rw [show 6 - (q + 1) = c by omega]; exact hB5⟩
  dsimp only
  rw [up_ne (by decide), y5 1 (Or.inl (by decide)), w3 1 (Or.inl (by decide)) (by omega), u2 1 (Or.inl (by decide)) (by omega)]
  exact h14
theorem k_refused {I : ai_I} {t : Nat} {M : ai_G} {A : SV} {B : Nat × Nat} (h : KA I A) : wp (m_133_x108_280 1 (nI 1) I (Rc t) (Gc M) B) (fun q => q = nI 1) := by
  have hs : 0 < 4 := by decide
  unfold m_133_x108_280
  rw [q_10, k_1, o_g_t, NO_eq]
  rw [k_price_8, o_b2_s, if_pos rfl]
  rw [k_price_o, o_b2_s, if_pos rfl]
  rw [k_sh_s, o_b2_s, if_pos rfl]
  rw [k_sh13 hs, o_b2_s, if_pos rfl]
  rw [k_value_s, o_b1_s, if_pos rfl]
  rw [k_value_o (x := nI 256) h hs (by decide), o_b1_s, if_pos rfl]
  rw [k_value_o (x := -1) h hs (by decide), o_b1_s, if_pos rfl]
  rw [k_base_n hs (by decide), o_b1_s, if_pos rfl]
  rw [k_fault_n hs (by decide), o_b2_s, if_pos rfl]
  rw [k_fault_3 hs, o_b2_s, if_pos rfl]
  rw [k_exchange_0 h hs, o_b1_s, if_pos rfl]
  rw [k_greedy_0 h hs, o_b2_s, if_pos rfl]
  rw [k_arrive_s, o_b2_s, if_pos rfl]
  refine wp_b2 (wp_mono (k_ini3 (t := t) (L := M) h hs) ?_)
  rintro ⟨x, K⟩ ⟨x1, x2⟩
  dsimp only at x1 x2 ⊢
  rw [if_pos x2]
  rw [k_space_s, o_b2_s, if_pos rfl]
  rw [k_fail_2 hs, o_b2_s, if_pos rfl]
  rw [k_span2 hs, o_b2_s, if_pos rfl]
  exact ⟨_, rfl, rfl⟩
theorem k_rounds {I : ai_I} {R : ai_R} {G : ai_G} {B : Nat × Nat} {N r : Nat} (hN : N ≤ 260) (h : LW N r 0 I R G B) : wp (m_133_j103 1 R r (nI 1) I G B) (fun q => q = nI 1) := by
  unfold m_133_j103
  refine wp_s1 (wp_mono (wp_lp (Q := fun z : Int32 × ai_I × ai_R × ai_G × Nat × Nat => z.1 = nI 1 ∧ LW N r 6 z.2.1 z.2.2.1 z.2.2.2.1 z.2.2.2.2) (fun q z => z.1 = nI 1 ∧ z.2.1 = nI q ∧ LW N r q z.2.2.1 z.2.2.2.1 z.2.2.2.2.1 z.2.2.2.2.2) 0 6 (by decide) (by decide) ⟨rfl, rfl, h⟩ ?_ ?_) ?_)
  · rintro q ⟨x, y, J, R', G', B'⟩ hq ⟨g1, g2, g3⟩
    dsimp only at g1 g2 g3
    subst g1
    subst g2
    obtain ⟨g0, M, A, m1, m2, m3, m4, m5, m6⟩ := g3
    unfold m_133_b108
    dsimp only
    rw [m1, q_leF (by omega) hq, ay_in m5 (by decide) (by decide), o_g_t]
    have hlen : (Gc M).2.1 1999 = N := gc_len.trans m4
    have hLW : LW N r q J R' (Gc M) B' := ⟨g0, M, A, rfl, m2, m3, m4, m5, m6⟩
    rw [hlen, show Int32.ofNat N = nI N from rfl, q_le (by omega) (by omega)]
    by_cases c : N ≤ q
    · rw [if_pos c]
      exact k_round (Q := fun z : Int32 × ai_I × ai_R × ai_G × Nat × Nat => z.1 = nI 1 ∧ LW N r 6 z.2.1 z.2.2.1 z.2.2.2.1 z.2.2.2.2) hq hLW
    · have hil : o_il (Gc M) (nI q) = true := by
        unfold o_il
        rw [hlen, i_cl (by omega), decide_eq_true (nI_pos (by omega)), decide_eq_true (by omega : q < N)]
        rfl
      rw [if_neg c, hil, o_g_t]
      exact k_round (Q := fun z : Int32 × ai_I × ai_R × ai_G × Nat × Nat => z.1 = nI 1 ∧ LW N r 6 z.2.1 z.2.2.1 z.2.2.2.1 z.2.2.2.2) hq hLW
  · rintro ⟨x, y, J, R', G', B'⟩ ⟨g1, g2, g3⟩
    dsimp only at g1 g2 g3
    subst g1
    subst g2
    unfold m_133_b108
    dsimp only
    rw [q_leT (by decide) (Nat.le_refl _), wp_s, lq_r]
    exact ⟨rfl, g3⟩
  · rintro ⟨x, J, R', G', B'⟩ ⟨g1, ⟨t, g2⟩, M, A, g3, -, -, -, -, g4, -⟩
    dsimp only at g1 g2 g3 g4 ⊢
    rw [g1, g2, g3]
    exact k_refused g4
/-- the first checks -/
def A0 : SV := (fun _ => 2, fun _ => 1, fun _ => V0, fun _ => 0)
theorem k_first {I : ai_I} {M : ai_G} {B : Nat × Nat} {N r : Nat} {y : Int32} (hN : N ≤ 260) (h : KA I A0) (h0 : I 1 4 = nI 0) (hr : ary M r 1) (hz : 74 ≤ M.2.2) (hz2 : M.2.2 ≤ 75) (hM : M.2.1 1999 = N) (hB : Bge B 400 10000) : wp (m_133_j27 1 (Rc 44) I (Gc M) r B y) (fun q => q = nI 1) := by
  have hr1 := hr.1
  have hr2 := hr.2.1
  have hs : 3 < 4 := by decide
  unfold m_133_j27
  rw [ay_in hr (by decide) (by decide), o_g_t, o_b1_s]
  have hJ : ot I (va_up I r (va_up (I r) (nI 0).toNatClampNeg y)) r := fun c hc => up_ne hc
  generalize va_up I r (va_up (I r) (nI 0).toNatClampNeg y) = J at hJ
  refine al_b hz (by omega) (by have := hB.1; have := hB.2; omega) ?_
  have hB1 : Bge (B.1 - 1, B.2 - 8) 399 9992 := Bge_s hB (by omega) (by omega)
  generalize (B.1 - 1, B.2 - 8) = B1 at hB1
  have hp0 := nw_new (n := 8) hz
  have er := nw_old (n := 8) hr
  have z1 : (nw M 8).2.2 = M.2.2 + 1 := nw_z
  have x1 : EX M (nw M 8) := EX_nw (by omega)
  obtain ⟨p, hpz⟩ : ∃ p, p = M.2.2 + 1 := ⟨_, rfl⟩
  rw [← hpz] at hp0 ⊢
  have hJ2 : KA (va_up J p (fun _ => 0)) A0 := KA_f h (fun c _ _ => by rw [up_ne (by omega), hJ c (by omega)])
  have hJ0 : va_up J p (fun _ => 0) 1 4 = nI 0 := by rw [up_ne (by omega), hJ 1 (by omega)]; exact h0
  have hJp : va_up J p (fun _ => 0) p = fun _ => 0 := up_eq
  generalize va_up J p (fun _ => 0) = J2 at hJ2 hJ0 hJp
  generalize nw M 8 = L2 at hp0 er z1 x1
  refine wp_b3 (wp_mono (k_values (t := 44) (L := L2) hJ2 hs (by omega) (by omega)) ?_)
  rintro ⟨v, I3, G3⟩ ⟨q1, q2, q3, q4⟩
  dsimp only at q1 q2 q3 q4 ⊢
  subst q2
  rw [bd_o hB1 (by omega) (by omega), o_g_t, o_b1_s, k_1, o_g_t]
  have hB3 : Bge (B1.1 - 1, B1.2 - 256) 398 9736 := Bge_s hB1 (by omega) (by omega)
  generalize (B1.1 - 1, B1.2 - 256) = B3 at hB3
  have hv : ary (nw L2 256) v 256 := by
    rw [q1]
    exact nw_new (by omega)
  have e6 := nw_old (n := 256) er
  have hp3 := nw_old (n := 256) hp0
  have z3 : (nw L2 256).2.2 = L2.2.2 + 1 := nw_z
  have x3 : EX M (nw L2 256) := EX_tr x1 (EX_nw (by omega))
  generalize nw L2 256 = L3 at hv e6 hp3 z3 x3
  have hA3 : KA I3 A0 := KA_f hJ2 (fun c _ _ => q3 c (by omega))
  have hV3 : HV I3 v (A0.2.2.1 3) := by
    rw [q1]
    exact q4
  have hP3 : ∀ e, e < 8 → I3 p e = A0.2.2.2 e := fun e he => by
    rw [q3 p (by omega), hJp]
    rfl
  have h14 : I3 1 4 = nI 0 := by rw [q3 1 (by omega)]; exact hJ0
  have hcount : m_111 1 (nI 2) I3 (Rc 44) (Gc L3) = some (nI 8) := by
    rw [k_count hA3]
    show some (nI ((((BL V0).length + (BL V0).length) + (BL V0).length) + (BL V0).length)) = _
    rw [BL_V0]
  rw [hcount, o_b1_s, if_pos rfl, k_bases (t := 44) hA3 hs hv hV3 (n := 2) (r := 1) rfl rfl, o_b2_s, q_10]
  refine wp_b2 (wp_mono (k_faults (t := 44) hA3 hs e6 hv (by omega) hV3) ?_)
  rintro ⟨u, I4⟩ ⟨u1, u2⟩
  dsimp only at u1 u2 ⊢
  rw [u1, q_10]
  have hA4 : KA I4 A0 := KA_smr hA3 hr1 u2
  have hV4 := HV_smr hV3 hv.1 (by omega) u2
  have hP4 : ∀ e, e < 8 → I4 p e = A0.2.2.2 e := fun e he => by
    rw [u2 p (Or.inr hp0.1) (by omega)]
    exact hP3 e he
  refine wp_b3 (wp_mono (k_greedys (t := 44) hA4 hs hv hp3 hV4 hP4 (by omega) (by omega)) ?_)
  rintro ⟨u, I5, G5⟩ ⟨w1, w2, w3⟩
  dsimp only at w1 w2 w3 ⊢
  subst w2
  rw [bd_o hB3 (by omega) (by omega), o_g_t, o_b1_s, w1, q_10]
  have hB4 : Bge (B3.1 - 1, B3.2 - 256) 397 9480 := Bge_s hB3 (by omega) (by omega)
  generalize (B3.1 - 1, B3.2 - 256) = B4 at hB4
  have hA5 : KA I5 A0 := KA_smr hA4 (by omega) w3
  have hV5 := HV_smr hV4 hv.1 (by have := hv.2.1; omega) w3
  have hP5 : ∀ e, e < 8 → I5 p e = A0.2.2.2 e := fun e he => by
    rw [w3 p (Or.inr hp0.1) (by have := hp3.2.1; omega)]
    exact hP4 e he
  have hv5 := nw_old (n := 256) hv
  have hp5 := nw_old (n := 256) hp3
  have e7 := nw_old (n := 256) e6
  have z5 : (nw L3 256).2.2 = L3.2.2 + 1 := nw_z
  have x5 : EX M (nw L3 256) := EX_tr x3 (EX_nw (by omega))
  generalize nw L3 256 = L5 at hv5 hp5 e7 z5 x5
  refine wp_b3 (wp_mono (k_spaces (t := 44) (n := 2) (r := 1) hA5 hs rfl rfl (by omega) hv5 hV5 hp5 hP5 (by omega) (by omega)) ?_)
  rintro ⟨u, I6, G6⟩ ⟨y1, ⟨L6, y2, y3, y4⟩, y5⟩
  dsimp only at y1 y2 y5 ⊢
  subst y2
  rw [bd_o hB4 (by omega) (by omega), o_g_t, o_b1_s, y1, q_10]
  have hB5 : Bge (B4.1 - 24, B4.2 - 192) 373 9288 := Bge_s hB4 (by omega) (by omega)
  generalize (B4.1 - 24, B4.2 - 192) = B5 at hB5
  have x6 : EX M L6 := EX_tr x5 y3
  refine k_rounds (N := N) hN ⟨⟨44, rfl⟩, L6, A0, rfl, by have := y3.1; omega, by omega, by rw [x6.2.2]; exact hM, y3.2.1 r 1 e7, KA_sk hA5 y5, ?_, ⟨Nat.le_trans (by decide) hB5.1, Nat.le_trans (by decide) hB5.2⟩⟩
  rw [y5 1 (Or.inl (by decide)), w3 1 (Or.inl (by decide)) (by omega), u2 1 (Or.inl (by decide)) (by omega)]
  exact h14
/-- the law is kept -/
theorem law_ok {L : Nat} {xs : Nat → Int32} (hL : L ≤ 260) : m_133 (fun a => if a = 1999 then xs else fun _ => 0) (fun _ _ => 0) (fun _ _ => 0) (fun a => if a = 1999 then 16 else 99, fun a => if a = 1999 then L else 0, 0) = some (nI 1) := by
  have hG : ((fun a => if a = 1999 then 16 else 99, fun a => if a = 1999 then L else 0, 0) : ai_G) = Gk L 0 := by
    have e1 : (fun a : Nat => if a = 1999 then 16 else 99) = (Gk L 0).1 := by
      funext a
      show _ = if a = 1999 then 16 else if a ≤ 0 then kL.getD a 99 else 99
      by_cases c : a ≤ 0
      · obtain rfl : a = 0 := by omega
        rfl
      · rw [if_neg c]
    have e2 : (fun a : Nat => if a = 1999 then L else 0) = (Gk L 0).2.1 := by
      funext a
      show _ = if a = 1999 then L else if a ≤ 0 then nL.getD a 0 else 0
      by_cases c : a ≤ 0
      · obtain rfl : a = 0 := by omega
        rfl
      · rw [if_neg c]
    rw [e1, e2]
    rfl
  have hI : ∀ a, ¬ a = 1999 → (fun a => if a = 1999 then xs else fun _ => (0 : Int32) : ai_I) a = fun _ => 0 := fun a ha => if_neg ha
  have key : wp (m_133 (fun a => if a = 1999 then xs else fun _ => 0) (fun _ _ => 0) (rf []) (Gk L 0)) (fun r => r = nI 1) := by
    generalize (fun a => if a = 1999 then xs else fun _ => (0 : Int32) : ai_I) = I at hI ⊢
    unfold m_133
    have hB : Bge (600000, 7302250) 600000 7302250 := ⟨Nat.le_refl _, Nat.le_refl _⟩
    generalize ((600000, 7302250) : Nat × Nat) = B at hB
    rw [o_b1_s, show o_lt9 (Gk L 0) = true from decide_eq_true (show 0 < 900 by decide), o_g_t, bd_o hB (by omega) (by omega), o_g_t, o_b1_s, o_b1_s, o_b1_s, o_b1_s, o_b1_s, o_b1_s]
    have eG : ((va_up (Gk L 0).1 ((Gk L 0).2.2 + 1) 10, (Gk L 0).2.1, (Gk L 0).2.2 + 1) : ai_G) = Gk L 1 := gk_o (k := 0) (by decide) rfl rfl
    have eI : va_up I ((Gk L 0).2.2 + 1) (fun _ => 0) = I := up_self (hI 1 (by decide))
    have eR : va_up (rf []) ((Gk L 0).2.2 + 1) (fun _ => 0) = rf [] := up_self rfl
    rw [eG, eI, eR, show (Gk L 0).2.2 + 1 = 1 from rfl]
    have hB0 : Bge (B.1 - 1, B.2 - 15) 599999 7302235 := Bge_s hB (by omega) (by omega)
    generalize (B.1 - 1, B.2 - 15) = B0 at hB0
    refine wp_b4 (wp_mono (c_136 (L := L) hI) ?_)
    rintro ⟨K, W, R, G⟩ ⟨p1, p2, p3, p4, p5, p6, p7, p8⟩
    dsimp only at p1 p2 p3 p4 p5 p6 p7 p8 ⊢
    subst p1
    subst p2
    rw [bd_o hB0 (by omega) (by omega), o_g_t, o_b1_s, rf_end5]
    have hB1 : Bge (B0.1 - 73, B0.2 - 8836) 599926 7293399 := Bge_s hB0 (by omega) (by omega)
    generalize (B0.1 - 73, B0.2 - 8836) = B1 at hB1
    have hz : (Gk L 74).2.2 = 74 := rfl
    have hl : (Gk L 74).2.1 1999 = L := by
      show (if 1999 = 1999 then L else if 1999 ≤ 74 then nL.getD 1999 0 else 0) = L
      rw [if_pos rfl]
    have hKA : KA K A0 := ⟨0, fun _ _ => 0, fun s hs => V0_WF, ⟨fun s hs => p8 s hs, fun e he => by rw [p7]; rfl⟩, fun e he => ⟨(by decide : (-1000 : Int32) ≤ 0), (by decide : (0 : Int32) ≤ nI 1000)⟩, by decide, p5, fun k hk => absurd hk (Nat.not_lt_zero _)⟩
    have hK1 : K 1 4 = nI 0 := by
      rw [p4 1 (Or.inl (by decide)), hI 1 (by decide)]
      rfl
    rw [gk_end5]
    generalize Gk L 74 = M at hz hl
    refine al_b (by omega) (by omega) (by have := hB1.1; have := hB1.2; omega) ?_
    have hr := nw_new (L := M) (n := 1) (by omega)
    have hB2 : Bge (B1.1 - 1, B1.2 - 1) 400 10000 := Bge_s hB1 (by omega) (by omega)
    generalize (B1.1 - 1, B1.2 - 1) = B2 at hB2
    have hl2 : (nw M 1).2.1 1999 = L := (up_ne (by omega)).trans hl
    have hlen : (Gc (nw M 1)).2.1 1999 = L := gc_len.trans hl2
    have hKA2 : KA (va_up K (M.2.2 + 1) (fun _ => 0)) A0 := KA_f hKA (fun c _ _ => up_ne (by omega))
    have hK2 : va_up K (M.2.2 + 1) (fun _ => 0) 1 4 = nI 0 := by rw [up_ne (by omega)]; exact hK1
    have fin : ∀ y, wp (m_133_j27 1 (Rc 44) (va_up K (M.2.2 + 1) (fun _ => 0)) (Gc (nw M 1)) (M.2.2 + 1) B2 y) (fun q => q = nI 1) := fun y => k_first hL hKA2 hK2 hr (by rw [nw_z]; omega) (by rw [nw_z]; omega) hl2 hB2
    rw [hlen, show Int32.ofNat L = nI L from rfl, q_e0 (by omega)]
    by_cases c : L = 0
    · rw [if_pos c]
      exact fin _
    · have hil : o_il (Gc (nw M 1)) (nI 0) = true := by
        unfold o_il
        rw [hlen, i_cl (by decide), decide_eq_true (nI_pos (by decide)), decide_eq_true (by omega : 0 < L)]
        rfl
      rw [if_neg c, hil, o_g_t]
      exact fin _
  obtain ⟨r, e, hr⟩ := key
  rw [hG]
  exact e.trans (by rw [hr])
