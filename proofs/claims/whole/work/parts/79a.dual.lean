/-! Makers: dual; shift. -/
theorem MC_cong {I J : ai_I} {n r : Nat} {V V2 : Nat → Int32} (h : MC I J n r V) (e : ∀ k, k < 256 → V k = V2 k) : MC I J n r V2 := ⟨h.1, h.2.1, h.2.2.1, fun k hk => (h.2.2.2 k hk).trans (e k hk)⟩
theorem MR_cong {I J : ai_I} {n r : Int32} {V V2 : Nat → Int32} (h : MR I J n r V) (e : ∀ k, k < 256 → V k = V2 k) : MR I J n r V2 := ⟨h.1, h.2.1, h.2.2.1, h.2.2.2.1, fun k hk => (h.2.2.2.2 k hk).trans (e k hk)⟩
def al (n : Nat) : Nat := 2 ^ n - 1
theorem al_x {n b : Nat} (h : b < 2 ^ n) : al n ^^^ b < 2 ^ n := Nat.xor_lt_two_pow (by unfold al; have := Nat.two_pow_pos n; omega) h
theorem al_xx {n b : Nat} : al n ^^^ (al n ^^^ b) = b := by rw [← Nat.xor_assoc, Nat.xor_self, Nat.zero_xor]
def dua (n : Nat) (V : Nat → Int32) (k : Nat) : Int32 := if k < 2 ^ n then V (al n ^^^ k) else V k
theorem c_49 {I : ai_I} {t L v n r : Nat} {V : Nat → Int32} (hv : v ∈ VC) (hv4 : v < 40) (hW : WF n r V) (h : CS I v n r V) : wp (m_49 49 v I (Rc t) (Gc L)) (fun q => q.1 = nI 1 ∧ MC I q.2 n (n - r) (dua n V)) := by
  have b1 := hW.1
  have b2 := hW.2.1
  have b3 := hW.2.2.1
  have b4 := hW.2.2.2.1
  have h8 := p2_le b2
  have hl := BL_len hW
  unfold m_49
  rw [v_kd hv, o_g_t, h.1, h.2.1, i_sub (by omega)]
  refine wp_b2 (wp_mono (c_41 (t := t) (L := L) (I := I) (nI n) (nI (n - r))) ?_)
  rintro q (⟨-, -, q3⟩ | ⟨q1, a, b, a1, a2, a3, a4, a5, a6, q2⟩)
  · exact absurd ⟨⟨nI_le b1 (by omega), nI_le b2 (by decide)⟩, nI_le (by omega) (by omega), by rw [i_sub (by omega)]; exact nI_le (by omega) (by omega)⟩ q3
  · rw [i_eq (by omega) (by omega)] at a5 a6
    subst a5 a6
    rw [q1, q_10]
    refine wp_s1 (wp_lpB V (fun p (J : ai_I) => (nI p, J)) (fun k J => MC I J n (n - r) (fun j => if j < 2 ^ n ∧ al n ^^^ j < k then V (al n ^^^ j) else NO)) (x0 := q.2) hl (MC_cong q2 (fun k _ => (if_neg (fun h => absurd h.2 (Nat.not_lt_zero _))).symm)) ?_ ?_ ?_)
    · intro k J hk hV hM
      refine MC_cong hM (fun j _ => ?_)
      by_cases c : j < 2 ^ n ∧ al n ^^^ j < k
      · rw [if_pos c, if_pos ⟨c.1, by omega⟩]
      · rw [if_neg c]
        by_cases c2 : j < 2 ^ n ∧ al n ^^^ j < k + 1
        · rw [if_pos c2, show al n ^^^ j = k by omega, hV]
        · rw [if_neg c2]
    · intro p J hp hM
      have hb := BL_at hp
      have hbn := (hW.2.2.2.2.1 _ hb.1 hb.2).1
      have hx := al_x hbn
      unfold m_49_b24
      dsimp only
      generalize hbb : (BL V).getD p 0 = bb at hb hbn hx hM ⊢
      rw [if_neg (show ¬ J v 2 ≤ nI p by rw [hM.1 v (by omega) (by omega), h.2.2.1]; exact nI_ge hp (by omega)), v_rb hv, v_gb hv (by omega), o_g_t, i_cl (by omega), hM.1 (v + 3) (by omega) (by omega), h.2.2.2.2.2 p hp, hbb, o_b1_s, c_119 b2 (by rw [hM.1 v (by omega) (by omega)]; exact h.1), o_b1_s, v_rv hv, v_gv hv hb.1, o_g_t, r_49_0, k_50, o_g_t, i_xor, i_cl (by omega), hM.1 (v + 1) (by omega) (by omega), h.2.2.2.1 _ hb.1]
      refine wp_b1 (wp_mono (c_113 (t := t) (L := L) (k := al n ^^^ bb) (x := V bb) hM (by omega)) ?_)
      intro K hK
      rw [i_add, o_b1_s, wp_s, lq_l]
      refine ⟨K, rfl, MC_cong hK (fun j hj => ?_)⟩
      by_cases c : j = al n ^^^ bb
      · subst c
        rw [up_eq, al_xx, if_neg (by omega), if_pos ⟨hx, by omega⟩, mx_no]
      · rw [up_ne c]
        have hne : ¬ al n ^^^ j = bb := fun e => c (by rw [← e, al_xx])
        by_cases c2 : j < 2 ^ n ∧ al n ^^^ j < bb
        · rw [if_pos c2, if_pos ⟨c2.1, by omega⟩]
        · rw [if_neg c2, if_neg (by omega)]
    · intro J hM
      unfold m_49_b24
      dsimp only
      rw [if_pos (show J v 2 ≤ nI (BL V).length by rw [hM.1 v (by omega) (by omega), h.2.2.1]; exact Int32.le_refl _), wp_s, lq_r]
      refine ⟨(nI 1, J), rfl, rfl, MC_cong hM (fun j hj => ?_)⟩
      unfold dua
      by_cases c : j < 2 ^ n
      · have := al_x c
        rw [if_pos c, if_pos ⟨c, by omega⟩]
      · rw [if_neg c, if_neg (fun h => c h.1)]
        exact (Decidable.byContradiction (fun h2 => c (hW.2.2.2.2.1 j hj h2).1) : V j = NO).symm
theorem s_229 {I J : ai_I} {t L : Nat} {n r : Int32} {V : Nat → Int32} (h : MR I J n r V) : wp (m_229 75 J (Rc t) (Gc L)) (fun K => MR I K n r V ∧ ∀ k, k < 256 → K 82 k = V k) := by
  unfold m_229
  refine wp_s1 (wp_lp (fun i s => s.1 = nI i ∧ MR I s.2 n r V ∧ ∀ k, k < i → s.2 82 k = V k) 0 256 (Nat.zero_le _) (by omega) ⟨rfl, h, fun k hk => absurd hk (Nat.not_lt_zero _)⟩ ?_ ?_)
  · rintro i ⟨s, M⟩ hi ⟨g1, ⟨h1, h2, h3, h4, h5⟩, g2⟩
    dsimp only at g1 g2 h1 h2 h3 h4 h5
    subst g1
    unfold m_229_b2
    dsimp only
    rw [if_neg (nI_ge hi (by decide)), r_75_16, r_75_17, g_81 hi, o_g_t, g_82 hi, o_g_t, i_cl (by omega), o_b1_s, i_add, o_b1_s, wp_s, lq_l]
    refine ⟨rfl, ⟨fun c c1 c2 c3 => by dsimp only; rw [up_ne c3]; exact h1 c c1 c2 c3, fun j j1 j2 => by dsimp only; rw [up_ne (by decide)]; exact h2 j j1 j2, by dsimp only; rw [up_ne (by decide)]; exact h3, by dsimp only; rw [up_ne (by decide)]; exact h4, fun k hk => by dsimp only; rw [up_ne (by decide)]; exact h5 k hk⟩, fun k hk => ?_⟩
    dsimp only
    rw [up_eq]
    by_cases e : k = i
    · rw [e, up_eq]
      exact h5 i hi
    · rw [up_ne e]
      exact g2 k (by omega)
  · rintro ⟨s, M⟩ ⟨g1, g2, g3⟩
    dsimp only at g1 g2 g3
    subst g1
    unfold m_229_b2
    dsimp only
    rw [if_pos (Int32.le_refl _), wp_s, lq_r]
    exact ⟨M, rfl, g2, g3⟩
theorem s_230 {I J : ai_I} {t L n r : Nat} {V : Nat → Int32} (hn : n ≤ 8) (hr : r ≤ n) (h : MR I J (nI n) (nI r) V) : wp (m_230 75 J (Rc t) (Gc L)) (fun K => MR I K (nI n) (nI (n - r)) (dua n V)) := by
  have h8 := p2_le hn
  have h0 := Nat.two_pow_pos n
  unfold m_230
  refine wp_b1 (wp_mono (s_229 h) ?_)
  rintro M ⟨hM, m2⟩
  rw [hM.2.2.1, i_shl (by decide) (by omega), Nat.one_mul, i_sub h0, o_b1_s]
  refine wp_s1 (wp_lp (fun i s => s.1 = nI i ∧ MR I s.2 (nI n) (nI r) (fun k => if k < i then V (al n ^^^ k) else V k) ∧ ∀ k, k < 256 → s.2 82 k = V k) 0 (2 ^ n) (Nat.zero_le _) (by omega) ⟨rfl, MR_cong hM (fun k _ => (if_neg (Nat.not_lt_zero _)).symm), m2⟩ ?_ ?_)
  · rintro i ⟨s, K⟩ hi ⟨g1, ⟨h1, h2, h3, h4, h5⟩, g2⟩
    dsimp only at g1 g2 h1 h2 h3 h4 h5
    subst g1
    have hx := al_x hi
    unfold m_230_b15
    dsimp only
    rw [if_neg (show ¬ nI (2 ^ n - 1) < nI i by rw [i_lt (by omega) (by omega)]; omega), r_75_16, r_75_17, i_xor, show (2 ^ n - 1) ^^^ i = al n ^^^ i from rfl, g_82 (by omega), o_g_t, g_81 (by omega), o_g_t, i_cl (by omega), i_cl (by omega), g2 _ (by omega), o_b1_s, i_add, o_b1_s, wp_s, lq_l]
    refine ⟨rfl, ⟨fun c c1 c2 c3 => by dsimp only; rw [up_ne c2]; exact h1 c c1 c2 c3, fun j j1 j2 => by dsimp only; rw [up_ne (by decide)]; exact h2 j j1 j2, by dsimp only; rw [up_ne (by decide)]; exact h3, by dsimp only; rw [up_ne (by decide)]; exact h4, fun k hk => ?_⟩, fun k hk => by dsimp only; rw [up_ne (by decide)]; exact g2 k hk⟩
    dsimp only
    rw [up_eq]
    by_cases e : k = i
    · rw [e, up_eq, if_pos (by omega)]
    · rw [up_ne e, h5 k hk]
      by_cases c : k < i
      · rw [if_pos c, if_pos (by omega)]
      · rw [if_neg c, if_neg (by omega)]
  · rintro ⟨s, K⟩ ⟨g1, ⟨h1, h2, h3, h4, h5⟩, g2⟩
    dsimp only at g1 g2 h1 h2 h3 h4 h5
    subst g1
    unfold m_230_b15
    dsimp only
    rw [if_pos (show nI (2 ^ n - 1) < nI (2 ^ n) by rw [i_lt (by omega) (by omega)]; omega), wp_s, lq_r]
    unfold m_230_x15_40
    rw [h3, h4, i_sub hr, o_b1_s, wp_s]
    exact ⟨fun c c1 c2 c3 => by rw [up_ne c1]; exact h1 c c1 c2 c3, fun j j1 j2 => by rw [up_eq, up_ne j2]; exact h2 j j1 j2, by rw [up_eq, up_ne (by decide)]; exact h3, by rw [up_eq, up_eq], fun k hk => by rw [up_ne (by decide)]; exact h5 k hk⟩
