/-! Makers: plus. -/
theorem pin_no {W : Nat → Int32} {op : Nat → Nat → Nat} {val : Nat → Nat → Int32} {cond : Nat → Nat → Prop} [∀ a b, Decidable (cond a b)] {k j : Nat} {D : Nat → Int32} (hD : D j = NO) : ∀ l, (∀ x, x < l → W x ≠ NO → ¬ op k x = j) → pin W op val cond k D l j = NO
  | 0, _ => hD
  | l + 1, h => by
    by_cases c : W l ≠ NO ∧ cond k l
    · rw [pin_t c, up_ne (fun e => h l (by omega) c.1 e.symm)]
      exact pin_no hD l (fun x hx => h x (by omega))
    · rw [pin_f c]
      exact pin_no hD l (fun x hx => h x (by omega))
theorem pou_no {V W : Nat → Int32} {op : Nat → Nat → Nat} {val : Nat → Nat → Int32} {cond : Nat → Nat → Prop} [∀ a b, Decidable (cond a b)] {j : Nat} : ∀ k, (∀ y x, y < k → V y ≠ NO → x < 256 → W x ≠ NO → ¬ op y x = j) → pou V W op val cond k j = NO
  | 0, _ => rfl
  | k + 1, h => by
    have ih := pou_no (V := V) (W := W) (op := op) (val := val) (cond := cond) (j := j) k (fun y x hy => h y x (by omega))
    by_cases c : V k = NO
    · rw [pou_f c]
      exact ih
    · rw [pou_t c]
      exact pin_no ih 256 (fun x hx hW => h k x (by omega) c hx hW)
def pdr (V W : Nat → Int32) (n k : Nat) : Nat → Int32 := pou V W (fun a b => a ||| b * 2 ^ n) (fun a b => V a + W b) (fun _ _ => True) k
theorem sh_or {n a b : Nat} (h : a < 2 ^ n) : a ||| b * 2 ^ n = a + b * 2 ^ n := by
  have h2 := Nat.two_pow_add_eq_or_of_lt h b
  rw [Nat.or_comm, Nat.mul_comm b, ← h2, Nat.add_comm]
theorem sh_lt {n m a b : Nat} (h : a < 2 ^ n) (h2 : b < 2 ^ m) (h3 : n + m ≤ 8) : a ||| b * 2 ^ n < 256 := by
  rw [sh_or h]
  have h4 : (b + 1) * 2 ^ n ≤ 2 ^ m * 2 ^ n := Nat.mul_le_mul_right _ h2
  rw [← Nat.pow_add, Nat.add_mul, Nat.one_mul, Nat.add_comm m n] at h4
  have h5 : 2 ^ (n + m) ≤ 2 ^ 8 := Nat.pow_le_pow_right (by decide) h3
  omega
theorem sh_inj {n a b c d : Nat} (h : a < 2 ^ n) (h2 : c < 2 ^ n) (e : a ||| b * 2 ^ n = c ||| d * 2 ^ n) : a = c ∧ b = d := by
  rw [sh_or h, sh_or h2] at e
  have h3 : (a + b * 2 ^ n) % 2 ^ n = a := by rw [Nat.add_mul_mod_self_right, Nat.mod_eq_of_lt h]
  have h4 : (c + d * 2 ^ n) % 2 ^ n = c := by rw [Nat.add_mul_mod_self_right, Nat.mod_eq_of_lt h2]
  have h5 : a = c := by rw [← h3, e, h4]
  subst h5
  exact ⟨rfl, Nat.eq_of_mul_eq_mul_right (Nat.two_pow_pos n) (by omega)⟩
theorem c_52l {I J0 : ai_I} {t L v w n r n2 r2 x y : Nat} {V W : Nat → Int32} (hv : v ∈ VC) (hv4 : v < 40) (hV : WF n r V) (h : CS I v n r V) (hw : w ∈ VC) (hw4 : w < 40) (hW : WF n2 r2 W) (h2 : CS I w n2 r2 W) (hs : n + n2 ≤ 8) (h0 : MC I J0 x y (fun _ => NO)) : wp (o_s1 (lp (fun s => m_52_b33 49 v w (Rc t) (Gc L) s.1 s.2) o_N ((nI 0), J0)) (fun t => m_52_x33_114 t)) (fun q => q.1 = nI 1 ∧ MC I q.2 x y (pdr V W n 256)) := by
  have hl := BL_len hV
  have hl2 := BL_len hW
  refine wp_s1 (wp_lpB V (fun p (J : ai_I) => (nI p, J)) (fun k J => MC I J x y (pdr V W n k)) (x0 := J0) hl h0 ?_ ?_ ?_)
  · intro k J hk hVk hM
    unfold pdr
    rw [pou_f hVk]
    exact hM
  · intro p J hp hM
    have hb := BL_at hp
    unfold m_52_b33
    dsimp only
    generalize hbb : (BL V).getD p 0 = bb at hb hM ⊢
    have hbn := (hV.2.2.2.2.1 bb hb.1 hb.2).1
    rw [if_neg (show ¬ J v 2 ≤ nI p by rw [hM.1 v (by omega) (by omega), h.2.2.1]; exact nI_ge hp (by omega))]
    refine wp_s1 (wp_lpB W (fun q (K : ai_I) => (nI q, K)) (fun l K => MC I K x y (pin W (fun a b => a ||| b * 2 ^ n) (fun a b => V a + W b) (fun _ _ => True) bb (pdr V W n bb) l)) (x0 := J) hl2 hM ?_ ?_ ?_)
    · intro l K hl3 hWl hK
      rw [pin_f (by exact fun h => h.1 hWl)]
      exact hK
    · intro q K hq hK
      have hc := BL_at hq
      unfold m_52_b44
      dsimp only
      generalize hcc : (BL W).getD q 0 = cc at hc hK ⊢
      have hcn := (hW.2.2.2.2.1 cc hc.1 hc.2).1
      rw [if_neg (show ¬ K w 2 ≤ nI q by rw [hK.1 w (by omega) (by omega), h2.2.2.1]; exact nI_ge hq (by omega)), v_rb hv, v_gb hv (by omega), o_g_t, i_cl (by omega), hK.1 (v + 3) (by omega) (by omega), h.2.2.2.2.2 p hp, hbb, o_b1_s, v_rb hw, v_gb hw (by omega), o_g_t, i_cl (by omega), hK.1 (w + 3) (by omega) (by omega), h2.2.2.2.2.2 q hq, hcc, o_b1_s, v_rv hv, v_gv hv hb.1, o_g_t, v_rv hw, v_gv hw hc.1, o_g_t, r_49_0, k_50, o_g_t, hK.1 v (by omega) (by omega), h.1, i_shl hc.1 (by omega), i_or, i_cl (by omega), i_cl (by omega), hK.1 (v + 1) (by omega) (by omega), hK.1 (w + 1) (by omega) (by omega), h.2.2.2.1 _ hb.1, h2.2.2.2.1 _ hc.1]
      refine wp_b1 (wp_mono (c_113 (t := t) (L := L) (k := bb ||| cc * 2 ^ n) (x := V bb + W cc) hK (sh_lt hbn hcn hs)) ?_)
      intro N hN
      rw [i_add, o_b1_s, wp_s, lq_l]
      refine ⟨N, rfl, ?_⟩
      rw [pin_t ⟨hc.2, trivial⟩]
      exact hN
    · intro K hK
      unfold m_52_b44
      dsimp only
      rw [if_pos (show K w 2 ≤ nI (BL W).length by rw [hK.1 w (by omega) (by omega), h2.2.2.1]; exact Int32.le_refl _), wp_s, lq_r]
      unfold m_52_x44_108
      rw [i_add, o_b1_s, wp_s, lq_l]
      refine ⟨K, rfl, ?_⟩
      unfold pdr
      rw [pou_t hb.2]
      exact hK
  · intro J hM
    unfold m_52_b33
    dsimp only
    rw [if_pos (show J v 2 ≤ nI (BL V).length by rw [hM.1 v (by omega) (by omega), h.2.2.1]; exact Int32.le_refl _), wp_s, lq_r]
    exact ⟨(nI 1, J), rfl, rfl, hM⟩
theorem s_236 {I J : ai_I} {t L a b n r n2 r2 : Nat} (ha : a < 12) (hb : b < 12) (hV : WF n r (FV I a)) (hW : WF n2 r2 (FV I b)) (h1 : ∀ c, ¬ c = 75 → ¬ c = 81 → ¬ c = 82 → J c = I c) (h2 : ∀ j, ¬ j = 18 → ¬ j = 19 → J 75 j = I 75 j) (hI : I 76 (258 * a) = nI n) (hIr : I 76 (258 * a + 1) = nI r) (hI2 : I 76 (258 * b) = nI n2) (hIr2 : I 76 (258 * b + 1) = nI r2) : wp (m_236 75 (nI a) (nI b) J (Rc t) (Gc L)) (fun K => ∃ D, MR I K (nI (min 9 (n + n2))) (nI (r + r2)) D ∧ (n + n2 ≤ 8 → D = pdr (FV I a) (FV I b) n 256)) := by
  have hn := hV.2.1
  have hn2 := hW.2.1
  have h8 := p2_le hn
  have h82 := p2_le hn2
  have h0 := Nat.two_pow_pos n
  have h02 := Nat.two_pow_pos n2
  have hF : ∀ M : ai_I, (∀ c, ¬ c = 75 → ¬ c = 81 → ¬ c = 82 → M c = I c) → FV M a = FV I a ∧ FV M b = FV I b ∧ M 76 (258 * a) = nI n ∧ M 76 (258 * b) = nI n2 := fun M hM => by
    unfold FV
    rw [hM 76 (by decide) (by decide) (by decide)]
    exact ⟨rfl, rfl, hI, hI2⟩
  have e76 : J 76 = I 76 := h1 76 (by decide) (by decide) (by decide)
  unfold m_236
  rw [s_195 ha, o_b1_s, s_195 hb, o_b1_s, e76, hI, hI2, i_add, s_190n (by decide) (by omega), o_b1_s, s_196 ha, o_b1_s, s_196 hb, o_b1_s, e76, hIr, hIr2, i_add]
  refine wp_b1 (wp_mono (s_219 (n := nI (min 9 (n + n2))) (r := nI (r + r2)) h1 h2) ?_)
  rintro M0 ⟨hM0, -⟩
  by_cases hs : n + n2 ≤ 8
  · rw [if_pos (show M0 75 18 ≤ nI 8 by rw [hM0.2.2.1]; exact nI_le (by omega) (by decide))]
    refine wp_s1 (wp_lp (fun k s => s.1 = nI k ∧ MR I s.2 (nI (min 9 (n + n2))) (nI (r + r2)) (pdr (FV I a) (FV I b) n k)) 0 (2 ^ n) (Nat.zero_le _) (by omega) ⟨rfl, hM0⟩ ?_ ?_)
    · rintro k ⟨s, M⟩ hk ⟨g1, g2⟩
      dsimp only at g1 g2
      subst g1
      have e1 := hF M g2.1
      unfold m_236_b43
      dsimp only
      rw [s_197 ha hn e1.2.2.1, o_b1_s, if_neg (show ¬ nI (2 ^ n - 1) < nI k by rw [i_lt (by omega) (by omega)]; omega)]
      refine wp_s1 (wp_lp (fun l s => s.1 = nI l ∧ MR I s.2 (nI (min 9 (n + n2))) (nI (r + r2)) (if FV I a k = NO then pdr (FV I a) (FV I b) n k else pin (FV I b) (fun x y => x ||| y * 2 ^ n) (fun x y => FV I a x + FV I b y) (fun _ _ => True) k (pdr (FV I a) (FV I b) n k) l)) 0 (2 ^ n2) (Nat.zero_le _) (by omega) ⟨rfl, MR_cong g2 (fun j _ => by by_cases c : FV I a k = NO; rw [if_pos c]; rw [if_neg c]; rfl)⟩ ?_ ?_)
      · rintro l ⟨s, K⟩ hl ⟨p1, p2⟩
        dsimp only at p1 p2
        subst p1
        have e2 := hF K p2.1
        have same : (FV I a k = NO ∨ ¬ (FV I b l ≠ NO ∧ True)) → MR I K (nI (min 9 (n + n2))) (nI (r + r2)) (if FV I a k = NO then pdr (FV I a) (FV I b) n k else pin (FV I b) (fun x y => x ||| y * 2 ^ n) (fun x y => FV I a x + FV I b y) (fun _ _ => True) k (pdr (FV I a) (FV I b) n k) (l + 1)) := fun hc => by
          by_cases c : FV I a k = NO
          · rw [if_pos c]
            rw [if_pos c] at p2
            exact p2
          · rw [if_neg c, pin_f (by exact hc.resolve_left c)]
            rw [if_neg c] at p2
            exact p2
        unfold m_236_b55
        dsimp only
        rw [s_197 hb hn2 e2.2.2.2, o_b1_s, if_neg (show ¬ nI (2 ^ n2 - 1) < nI l by rw [i_lt (by omega) (by omega)]; omega), s_199 ha (by omega), o_b1_s, q_bz, e2.1]
        by_cases c2 : FV I a k ≠ NO
        · rw [if_pos c2, s_199 hb (by omega), o_b1_s, q_bz, e2.2.1]
          by_cases c3 : FV I b l ≠ NO
          · have hlt := sh_lt hk hl hs
            rw [if_pos c3, s_195 ha, o_b1_s, s_198 ha (by omega), o_b1_s, s_198 hb (by omega), o_b1_s, e2.2.2.1, i_shl (by omega) (by omega), i_or, e2.1, e2.2.1, r_75_16, g_81 hlt, o_g_t, i_cl (by omega), o_b1_s, i_add, o_b1_s, wp_s, lq_l]
            rw [if_neg c2] at p2
            refine ⟨rfl, ?_⟩
            rw [if_neg c2, pin_t ⟨c3, trivial⟩]
            have hno : pin (FV I b) (fun x y => x ||| y * 2 ^ n) (fun x y => FV I a x + FV I b y) (fun _ _ => True) k (pdr (FV I a) (FV I b) n k) l (k ||| l * 2 ^ n) = NO := by
              refine pin_no (pou_no k (fun y x hy hVy hx hWx e => ?_)) l (fun x hx hWx e => ?_)
              · have := (sh_inj (hV.2.2.2.2.1 y (by omega) hVy).1 hk e).1
                omega
              · have := (sh_inj hk hk e).2
                omega
            rw [hno, mx_no]
            exact MR_up p2
          · rw [if_neg c3, i_add, o_b1_s, wp_s, lq_l]
            exact ⟨rfl, same (Or.inr (fun h => c3 h.1))⟩
        · rw [if_neg c2, i_add, o_b1_s, wp_s, lq_l]
          exact ⟨rfl, same (Or.inl (Decidable.not_not.1 c2))⟩
      · rintro ⟨s, K⟩ ⟨p1, p2⟩
        dsimp only at p1 p2
        subst p1
        have e2 := hF K p2.1
        unfold m_236_b55
        dsimp only
        rw [s_197 hb hn2 e2.2.2.2, o_b1_s, if_pos (show nI (2 ^ n2 - 1) < nI (2 ^ n2) by rw [i_lt (by omega) (by omega)]; omega), wp_s, lq_r]
        unfold m_236_x55_119
        rw [i_add, o_b1_s, wp_s, lq_l]
        refine ⟨rfl, ?_⟩
        unfold pdr
        by_cases c : FV I a k = NO
        · rw [if_pos c] at p2
          rw [pou_f c]
          exact p2
        · have hup := pin_up (W := FV I b) (op := fun x y => x ||| y * 2 ^ n) (val := fun x y => FV I a x + FV I b y) (cond := fun _ _ => True) (k := k) (D := pdr (FV I a) (FV I b) n k) (WF_hi hW) (256 - 2 ^ n2) (by omega)
          rw [show 2 ^ n2 + (256 - 2 ^ n2) = 256 by omega] at hup
          rw [if_neg c, ← hup] at p2
          rw [pou_t c]
          exact p2
    · rintro ⟨s, M⟩ ⟨g1, g2⟩
      dsimp only at g1 g2
      subst g1
      have e1 := hF M g2.1
      unfold m_236_b43
      dsimp only
      rw [s_197 ha hn e1.2.2.1, o_b1_s, if_pos (show nI (2 ^ n - 1) < nI (2 ^ n) by rw [i_lt (by omega) (by omega)]; omega), wp_s, lq_r]
      have hup := pou_up (V := FV I a) (W := FV I b) (op := fun x y => x ||| y * 2 ^ n) (val := fun x y => FV I a x + FV I b y) (cond := fun _ _ => True) (WF_hi hV) (256 - 2 ^ n) (by omega)
      rw [show 2 ^ n + (256 - 2 ^ n) = 256 by omega] at hup
      refine ⟨M, rfl, _, g2, fun _ => ?_⟩
      unfold pdr
      rw [hup]
  · rw [if_neg (show ¬ M0 75 18 ≤ nI 8 by rw [hM0.2.2.1]; exact nI_ge (by omega) (by omega)), wp_s]
    exact ⟨_, hM0, fun h => absurd h hs⟩
