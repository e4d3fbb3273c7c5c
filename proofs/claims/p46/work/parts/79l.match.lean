/-! Out of whole's part 79l.match, by wip/p46/extract.py. -/
def bcd (B : Nat → Int32) (w : Nat → Nat → Int32) (set m : Nat) (z : Int32) : Prop := ∃ e, e < m ∧ set.testBit e = true ∧ z = B (set ^^^ 2 ^ e) + w (pc set - 1) e
theorem c_45 {I J : ai_I} {t k n r set : Nat} {L : ai_G} {B num : Nat → Int32} (hn : n ≤ 8) (hr : r < 8) (hs : set < 2 ^ n) (h1 : 1 ≤ pc set) (h2 : pc set ≤ r) (hR : RD I t L k num (3 + n * r)) (hJ : ∀ x, ¬ x = 50 → ¬ x = 51 → ¬ x = 54 → J x = I x) (h0 : J 50 0 = nI n) (hB : ∀ j, j < set → J 54 j = B j) : wp (m_34 49 (nI set) (nI (pc set - 1)) 43 (nI k) J (Rc t) (Gc L)) (MX (bcd B (fun row e => num (3 + row * n + e)) set n)) := by
  have h8 := p2_le hn
  unfold m_34
  refine wp_s1 (wp_lp (fun e s => ∃ x, s = (x, nI e) ∧ MX (bcd B (fun row e => num (3 + row * n + e)) set e) x) 0 n (Nat.zero_le _) (by omega) ⟨NO, rfl, Or.inl ⟨rfl, fun y ⟨e, he, _⟩ => absurd he (Nat.not_lt_zero _)⟩⟩ ?_ ?_)
  · rintro e s he ⟨x, rfl, hx⟩
    unfold m_34_b7
    dsimp only
    rw [r_49_0, k_50, o_g_t, if_neg (show ¬ J 50 0 ≤ nI e by rw [h0]; exact nI_ge he (by omega)), c_183 (by omega) (by omega), o_b1_s, q_bz]
    by_cases c : set.testBit e = true
    · have hxr := xr_all set (by omega) e (by omega) c
      have hm : (pc set - 1) * n + e < n * r := by
        have h3 : (pc set - 1 + 1) * n ≤ r * n := Nat.mul_le_mul_right n (by omega)
        rw [Nat.add_mul, Nat.one_mul] at h3
        rw [Nat.mul_comm n r]
        omega
      rw [if_pos c, i_shl (by decide) (by omega), Nat.one_mul, i_xor, r_49_1, g_54 (by omega), o_g_t, k_43, o_g_t, h0, i_mul, i_add, i_add, hR J hJ _ (by omega), o_b1_s, i_cl (by omega), hB _ hxr.1, mx_lt, o_b1_s, i_add, o_b1_s, wp_s, lq_l]
      refine ⟨_, rfl, MX_cong (MX_add hx) (fun z => ?_)⟩
      constructor
      · rintro (⟨e2, e3, e4⟩ | h3)
        · exact ⟨e2, by omega, e4⟩
        · exact ⟨e, by omega, c, h3⟩
      · rintro ⟨e2, e3, e4, e5⟩
        by_cases e6 : e2 = e
        · rw [e6] at e5
          exact Or.inr e5
        · exact Or.inl ⟨e2, by omega, e4, e5⟩
    · rw [if_neg c, i_add, o_b1_s, wp_s, lq_l]
      refine ⟨x, rfl, MX_cong hx (fun z => ?_)⟩
      constructor
      · rintro ⟨e2, e3, e4⟩
        exact ⟨e2, by omega, e4⟩
      · rintro ⟨e2, e3, e4, e5⟩
        by_cases e6 : e2 = e
        · rw [e6] at e4
          exact absurd e4 c
        · exact ⟨e2, by omega, e4, e5⟩
  · rintro s ⟨x, rfl, hx⟩
    unfold m_34_b7
    dsimp only
    rw [r_49_0, k_50, o_g_t, if_pos (show J 50 0 ≤ nI n by rw [h0]; exact Int32.le_refl _), wp_s, lq_r]
    exact ⟨x, rfl, hx⟩
/-- the best of sets below i -/
def BST (B : Nat → Int32) (w : Nat → Nat → Int32) (n r i : Nat) : Prop := B 0 = nI 0 ∧ ∀ j, 0 < j → j < i → pc j ≤ r → MX (bcd B w j n) (B j)
theorem bcd_cong {B B2 : Nat → Int32} {w : Nat → Nat → Int32} {j n : Nat} (hj : j < 256) (hn : n ≤ 8) (h : ∀ k, k < j → B k = B2 k) (z : Int32) : bcd B w j n z ↔ bcd B2 w j n z := by
  constructor
  · rintro ⟨e, h1, h2, h3⟩
    exact ⟨e, h1, h2, by rw [← h _ (xr_all j hj e (by omega) h2).1]; exact h3⟩
  · rintro ⟨e, h1, h2, h3⟩
    exact ⟨e, h1, h2, by rw [h _ (xr_all j hj e (by omega) h2).1]; exact h3⟩
theorem pc_pos {i : Nat} (h : 0 < i) (h2 : i < 256) : 1 ≤ pc i := pc_ne i h2 h
theorem c_44 {I J : ai_I} {t k n r : Nat} {L : ai_G} {num : Nat → Int32} (hn : n ≤ 8) (hr1 : 1 ≤ r) (hr : r < 8) (hR : RD I t L k num (3 + n * r)) (h : MC I J n r (fun _ => NO)) : wp (m_33 49 43 (nI k) J (Rc t) (Gc L)) (fun K => BST (K 54) (fun row e => num (3 + row * n + e)) n r (2 ^ n) ∧ MC (va_up I 54 (K 54)) K n r (fun j => if j < 2 ^ n ∧ pc j = r then K 54 j else NO)) := by
  have h8 := p2_le hn
  have h0 := Nat.two_pow_pos n
  have mk54 : ∀ (M : ai_I) (V : Nat → Int32) (f : Nat → Int32), MC (va_up I 54 (M 54)) M n r V → MC (va_up I 54 f) (va_up M 54 f) n r V := fun M V f hM => ⟨fun c c1 c2 => by
    by_cases e : c = 54
    · rw [e, up_eq, up_eq]
    · have h9 := hM.1 c c1 c2
      rw [up_ne e] at h9
      rw [up_ne e, up_ne e, h9], by rw [up_ne (by decide)]; exact hM.2.1, by rw [up_ne (by decide)]; exact hM.2.2.1, fun j hj => by rw [up_ne (by decide)]; exact hM.2.2.2 j hj⟩
  unfold m_33
  rw [r_49_1, g_54 (by decide), o_g_t, o_b1_s]
  refine wp_s1 (wp_lp (fun i s => (1 ≤ i ∧ s.1 = nI i) ∧ BST (s.2 54) (fun row e => num (3 + row * n + e)) n r i ∧ MC (va_up I 54 (s.2 54)) s.2 n r (fun j => if j < i ∧ pc j = r then s.2 54 j else NO)) 1 (2 ^ n) (by omega) (by omega) ⟨⟨Nat.le_refl _, rfl⟩, ⟨by dsimp only; rw [up_eq]; exact up_eq, fun j j1 j2 => by omega⟩, ?_⟩ ?_ ?_)
  · have hJ : MC (va_up I 54 (J 54)) J n r (fun _ => NO) := ⟨fun c c1 c2 => by
      by_cases e : c = 54
      · rw [e, up_eq]
      · rw [up_ne e]
        exact h.1 c c1 c2, h.2.1, h.2.2.1, h.2.2.2⟩
    dsimp only
    rw [up_eq]
    refine MC_cong (mk54 J _ _ hJ) (fun j _ => (if_neg (fun h9 => ?_)).symm)
    have e0 : j = 0 := by omega
    rw [e0] at h9
    have e1 : pc 0 = 0 := by decide
    omega
  · rintro i ⟨s, M⟩ hi0 ⟨⟨hi1, g1⟩, g2, g3⟩
    dsimp only at g1 g2 g3
    subst g1
    by_cases hi2 : 1 ≤ i
    · have hp := pc_pos hi1 (show i < 256 by omega)
      have hp8 := pc_le i
      have fr : ∀ c, ¬ c = 50 → ¬ c = 51 → ¬ c = 54 → M c = I c := fun c c1 c2 c3 => by
        have h9 := g3.1 c c1 c2
        rw [up_ne c3] at h9
        exact h9
      unfold m_33_b9
      dsimp only
      rw [r_49_0, k_50, o_g_t, c_118 hn g3.2.1, o_b1_s, if_neg (nI_ge hi0 (by omega)), s_331 (by omega), o_b1_s, i_sub hp, o_b1_s]
      by_cases c : r ≤ pc i - 1
      · rw [if_pos (show M 50 1 ≤ nI (pc i - 1) by rw [g3.2.2.1]; exact nI_le c (by omega)), i_add, o_b1_s, wp_s, lq_l]
        refine ⟨⟨by omega, rfl⟩, ⟨g2.1, fun j j1 j2 j3 => ?_⟩, MC_cong g3 (fun j hj => ?_)⟩
        · by_cases e : j = i
          · rw [e] at j3
            omega
          · exact g2.2 j j1 (by omega) j3
        · by_cases e : j = i
          · rw [if_neg (by omega), if_neg (by rw [e]; omega)]
          · by_cases e2 : j < i ∧ pc j = r
            · rw [if_pos e2, if_pos ⟨by omega, e2.2⟩]
            · rw [if_neg e2, if_neg (fun h9 => e2 ⟨by omega, h9.2⟩)]
      · rw [if_neg (show ¬ M 50 1 ≤ nI (pc i - 1) by rw [g3.2.2.1]; exact nI_ge (by omega) (by omega))]
        refine wp_b1 (wp_mono (c_45 (B := M 54) hn hr hi0 hp (by omega) hR fr g3.2.1 (fun _ _ => rfl)) ?_)
        intro x hx
        rw [r_49_1, g_54 (by omega), o_g_t, i_cl (by omega), o_b1_s]
        have hb : BST (va_up (M 54) i x) (fun row e => num (3 + row * n + e)) n r (i + 1) := by
          refine ⟨by rw [up_ne (by omega)]; exact g2.1, fun j j1 j2 j3 => ?_⟩
          by_cases e : j = i
          · rw [e, up_eq]
            exact MX_cong hx (bcd_cong (by omega) hn (fun k hk => (up_ne (by omega)).symm))
          · rw [up_ne e]
            exact MX_cong (g2.2 j j1 (by omega) j3) (bcd_cong (by omega) hn (fun k hk => (up_ne (by omega)).symm))
        have hm : MC (va_up I 54 (va_up (M 54) i x)) (va_up M 54 (va_up (M 54) i x)) n r (fun j => if j < i ∧ pc j = r then va_up (M 54) i x j else NO) := MC_cong (mk54 M _ (va_up (M 54) i x) g3) (fun j hj => by
          by_cases e2 : j < i ∧ pc j = r
          · rw [if_pos e2, if_pos e2, up_ne (by omega)]
          · rw [if_neg e2, if_neg e2])
        by_cases c2 : pc i - 1 = r - 1
        · rw [if_pos (show nI (pc i - 1) = va_up M 54 (va_up (M 54) i x) 50 1 - nI 1 by rw [up_ne (by decide), g3.2.2.1, i_sub hr1, c2]), o_g_t, up_eq, up_eq]
          refine wp_b1 (wp_mono (c_113 (t := t) (L := L) (k := i) (x := x) hm (by omega)) ?_)
          intro K hK
          have e54 : K 54 = va_up (M 54) i x := (hK.1 54 (by decide) (by decide)).trans up_eq
          rw [i_add, o_b1_s, wp_s, lq_l]
          refine ⟨⟨by omega, rfl⟩, by dsimp only; rw [e54]; exact hb, ?_⟩
          dsimp only
          rw [e54]
          refine MC_cong hK (fun j hj => ?_)
          by_cases e : j = i
          · rw [e, up_eq, if_neg (by omega), mx_no, if_pos ⟨by omega, by omega⟩, up_eq]
          · rw [up_ne e]
            by_cases e2 : j < i ∧ pc j = r
            · rw [if_pos e2, if_pos ⟨by omega, e2.2⟩]
            · rw [if_neg e2, if_neg (fun h9 => e2 ⟨by omega, h9.2⟩)]
        · rw [if_neg (show ¬ nI (pc i - 1) = va_up M 54 (va_up (M 54) i x) 50 1 - nI 1 by rw [up_ne (by decide), g3.2.2.1, i_sub hr1, i_eq (by omega) (by omega)]; exact c2), i_add, o_b1_s, wp_s, lq_l]
          refine ⟨⟨by omega, rfl⟩, by dsimp only; rw [up_eq]; exact hb, ?_⟩
          dsimp only
          rw [up_eq]
          refine MC_cong hm (fun j hj => ?_)
          by_cases e : j = i
          · rw [if_neg (by omega), if_neg (by rw [e]; omega)]
          · by_cases e2 : j < i ∧ pc j = r
            · rw [if_pos e2, if_pos ⟨by omega, e2.2⟩]
            · rw [if_neg e2, if_neg (fun h9 => e2 ⟨by omega, h9.2⟩)]
    · omega
  · rintro ⟨s, M⟩ ⟨⟨-, g1⟩, g2, g3⟩
    dsimp only at g1 g2 g3
    subst g1
    unfold m_33_b9
    dsimp only
    rw [r_49_0, k_50, o_g_t, c_118 hn g3.2.1, o_b1_s, if_pos (Int32.le_refl _), wp_s, lq_r]
    exact ⟨M, rfl, g2, g3⟩
