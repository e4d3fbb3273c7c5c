/-! Makers: join. -/
def pin (W : Nat → Int32) (op : Nat → Nat → Nat) (val : Nat → Nat → Int32) (cond : Nat → Nat → Prop) [∀ a b, Decidable (cond a b)] (k : Nat) (D : Nat → Int32) : Nat → Nat → Int32
  | 0 => D
  | l + 1 => if W l ≠ NO ∧ cond k l then va_up (pin W op val cond k D l) (op k l) (mx (pin W op val cond k D l (op k l)) (val k l)) else pin W op val cond k D l
section
variable {V W : Nat → Int32} {op : Nat → Nat → Nat} {val : Nat → Nat → Int32} {cond : Nat → Nat → Prop} {k l : Nat} {D : Nat → Int32}
theorem pin_t [∀ a b, Decidable (cond a b)] (h : W l ≠ NO ∧ cond k l) : pin W op val cond k D (l + 1) = va_up (pin W op val cond k D l) (op k l) (mx (pin W op val cond k D l (op k l)) (val k l)) := if_pos h
theorem pin_f [∀ a b, Decidable (cond a b)] (h : ¬ (W l ≠ NO ∧ cond k l)) : pin W op val cond k D (l + 1) = pin W op val cond k D l := if_neg h
theorem pin_up [∀ a b, Decidable (cond a b)] {N : Nat} (h : ∀ l, N ≤ l → l < 256 → W l = NO) : ∀ m, N + m ≤ 256 → pin W op val cond k D (N + m) = pin W op val cond k D N
  | 0, _ => rfl
  | m + 1, hm => (pin_f (fun h2 => h2.1 (h (N + m) (by omega) (by omega)))).trans (pin_up h m (by omega))
end
def pou (V W : Nat → Int32) (op : Nat → Nat → Nat) (val : Nat → Nat → Int32) (cond : Nat → Nat → Prop) [∀ a b, Decidable (cond a b)] : Nat → Nat → Int32
  | 0 => fun _ => NO
  | k + 1 => if V k = NO then pou V W op val cond k else pin W op val cond k (pou V W op val cond k) 256
section
variable {V W : Nat → Int32} {op : Nat → Nat → Nat} {val : Nat → Nat → Int32} {cond : Nat → Nat → Prop} {k : Nat}
theorem pou_f [∀ a b, Decidable (cond a b)] (h : V k = NO) : pou V W op val cond (k + 1) = pou V W op val cond k := if_pos h
theorem pou_t [∀ a b, Decidable (cond a b)] (h : ¬ V k = NO) : pou V W op val cond (k + 1) = pin W op val cond k (pou V W op val cond k) 256 := if_neg h
theorem pou_up [∀ a b, Decidable (cond a b)] {N : Nat} (h : ∀ k, N ≤ k → k < 256 → V k = NO) : ∀ m, N + m ≤ 256 → pou V W op val cond (N + m) = pou V W op val cond N
  | 0, _ => rfl
  | m + 1, hm => (pou_f (h (N + m) (by omega) (by omega))).trans (pou_up h m (by omega))
end
theorem WF_hi {n r : Nat} {V : Nat → Int32} (hW : WF n r V) : ∀ k, 2 ^ n ≤ k → k < 256 → V k = NO := fun k h1 h2 => Decidable.byContradiction (fun h => by
  have := (hW.2.2.2.2.1 k h2 h).1
  omega)
def jdr (V W : Nat → Int32) (k : Nat) : Nat → Int32 := pou V W (fun a b => a ||| b) (fun a b => V a + W b) (fun a b => a &&& b = 0) k
theorem c_57l {I J0 : ai_I} {t L v w n r n2 r2 x y : Nat} {V W : Nat → Int32} (hv : v ∈ VC) (hv4 : v < 40) (hV : WF n r V) (h : CS I v n r V) (hw : w ∈ VC) (hw4 : w < 40) (hW : WF n2 r2 W) (h2 : CS I w n2 r2 W) (h0 : MC I J0 x y (fun _ => NO)) : wp (o_s1 (lp (fun s => m_57_b32 49 v w (Rc t) (Gc L) s.1 s.2) o_N ((nI 0), J0)) (fun t => m_57_x32_116 t)) (fun q => q.1 = nI 1 ∧ MC I q.2 x y (jdr V W 256)) := by
  have hl := BL_len hV
  have hl2 := BL_len hW
  refine wp_s1 (wp_lpB V (fun p (J : ai_I) => (nI p, J)) (fun k J => MC I J x y (jdr V W k)) (x0 := J0) hl h0 ?_ ?_ ?_)
  · intro k J hk hVk hM
    unfold jdr
    rw [pou_f hVk]
    exact hM
  · intro p J hp hM
    have hb := BL_at hp
    unfold m_57_b32
    dsimp only
    generalize hbb : (BL V).getD p 0 = bb at hb hM ⊢
    rw [if_neg (show ¬ J v 2 ≤ nI p by rw [hM.1 v (by omega) (by omega), h.2.2.1]; exact nI_ge hp (by omega))]
    refine wp_s1 (wp_lpB W (fun q (K : ai_I) => (nI q, K)) (fun l K => MC I K x y (pin W (fun a b => a ||| b) (fun a b => V a + W b) (fun a b => a &&& b = 0) bb (jdr V W bb) l)) (x0 := J) hl2 hM ?_ ?_ ?_)
    · intro l K hl3 hWl hK
      rw [pin_f (fun h => h.1 hWl)]
      exact hK
    · intro q K hq hK
      have hc := BL_at hq
      unfold m_57_b43
      dsimp only
      generalize hcc : (BL W).getD q 0 = cc at hc hK ⊢
      rw [if_neg (show ¬ K w 2 ≤ nI q by rw [hK.1 w (by omega) (by omega), h2.2.2.1]; exact nI_ge hq (by omega)), v_rb hv, v_gb hv (by omega), o_g_t, i_cl (by omega), hK.1 (v + 3) (by omega) (by omega), h.2.2.2.2.2 p hp, hbb, o_b1_s, v_rb hw, v_gb hw (by omega), o_g_t, i_cl (by omega), hK.1 (w + 3) (by omega) (by omega), h2.2.2.2.2.2 q hq, hcc, o_b1_s, i_and, q_e0 (Nat.lt_of_le_of_lt Nat.and_le_left (by omega))]
      by_cases c : bb &&& cc = 0
      · rw [if_pos c, v_rv hv, v_gv hv hb.1, o_g_t, v_rv hw, v_gv hw hc.1, o_g_t, r_49_0, k_50, o_g_t, i_or, i_cl (by omega), i_cl (by omega), hK.1 (v + 1) (by omega) (by omega), hK.1 (w + 1) (by omega) (by omega), h.2.2.2.1 _ hb.1, h2.2.2.2.1 _ hc.1]
        refine wp_b1 (wp_mono (c_113 (t := t) (L := L) (k := bb ||| cc) (x := V bb + W cc) hK (bit_or_lt hb.1 hc.1)) ?_)
        intro N hN
        rw [i_add, o_b1_s, wp_s, lq_l]
        refine ⟨N, rfl, ?_⟩
        rw [pin_t ⟨hc.2, c⟩]
        exact hN
      · rw [if_neg c, i_add, o_b1_s, wp_s, lq_l]
        refine ⟨K, rfl, ?_⟩
        rw [pin_f (by exact fun h => c h.2)]
        exact hK
    · intro K hK
      unfold m_57_b43
      dsimp only
      rw [if_pos (show K w 2 ≤ nI (BL W).length by rw [hK.1 w (by omega) (by omega), h2.2.2.1]; exact Int32.le_refl _), wp_s, lq_r]
      unfold m_57_x43_110
      rw [i_add, o_b1_s, wp_s, lq_l]
      refine ⟨K, rfl, ?_⟩
      unfold jdr
      rw [pou_t hb.2]
      exact hK
  · intro J hM
    unfold m_57_b32
    dsimp only
    rw [if_pos (show J v 2 ≤ nI (BL V).length by rw [hM.1 v (by omega) (by omega), h.2.2.1]; exact Int32.le_refl _), wp_s, lq_r]
    exact ⟨(nI 1, J), rfl, rfl, hM⟩
theorem s_237 {I J : ai_I} {t L a b n r r2 : Nat} (ha : a < 12) (hb : b < 12) (hV : WF n r (FV I a)) (hW : WF n r2 (FV I b)) (h1 : ∀ c, ¬ c = 75 → ¬ c = 81 → ¬ c = 82 → J c = I c) (h2 : ∀ j, ¬ j = 18 → ¬ j = 19 → J 75 j = I 75 j) (hI : I 76 (258 * a) = nI n) (hIr : I 76 (258 * a + 1) = nI r) (hIr2 : I 76 (258 * b + 1) = nI r2) : wp (m_237 75 (nI a) (nI b) J (Rc t) (Gc L)) (fun K => MR I K (nI n) (nI (r + r2)) (jdr (FV I a) (FV I b) 256)) := by
  have hn := hV.2.1
  have h8 := p2_le hn
  have h0 := Nat.two_pow_pos n
  have hF : ∀ M : ai_I, (∀ c, ¬ c = 75 → ¬ c = 81 → ¬ c = 82 → M c = I c) → FV M a = FV I a ∧ FV M b = FV I b ∧ M 76 (258 * a) = nI n := fun M hM => by
    unfold FV
    rw [hM 76 (by decide) (by decide) (by decide)]
    exact ⟨rfl, rfl, hI⟩
  have e76 : J 76 = I 76 := h1 76 (by decide) (by decide) (by decide)
  unfold m_237
  rw [s_195 ha, o_b1_s, s_196 ha, o_b1_s, s_196 hb, o_b1_s, e76, hI, hIr, hIr2, i_add]
  refine wp_b1 (wp_mono (s_219 (n := nI n) (r := nI (r + r2)) h1 h2) ?_)
  rintro M0 ⟨hM0, -⟩
  refine wp_s1 (wp_lp (fun k s => s.1 = nI k ∧ MR I s.2 (nI n) (nI (r + r2)) (jdr (FV I a) (FV I b) k)) 0 (2 ^ n) (Nat.zero_le _) (by omega) ⟨rfl, hM0⟩ ?_ ?_)
  · rintro k ⟨s, M⟩ hk ⟨g1, g2⟩
    dsimp only at g1 g2
    subst g1
    have e1 := hF M g2.1
    unfold m_237_b22
    dsimp only
    rw [s_197 ha hn e1.2.2, o_b1_s, if_neg (show ¬ nI (2 ^ n - 1) < nI k by rw [i_lt (by omega) (by omega)]; omega)]
    refine wp_s1 (wp_lp (fun l s => s.1 = nI l ∧ MR I s.2 (nI n) (nI (r + r2)) (if FV I a k = NO then jdr (FV I a) (FV I b) k else pin (FV I b) (fun x y => x ||| y) (fun x y => FV I a x + FV I b y) (fun x y => x &&& y = 0) k (jdr (FV I a) (FV I b) k) l)) 0 (2 ^ n) (Nat.zero_le _) (by omega) ⟨rfl, MR_cong g2 (fun j _ => by by_cases c : FV I a k = NO; rw [if_pos c]; rw [if_neg c]; rfl)⟩ ?_ ?_)
    · rintro l ⟨s, K⟩ hl ⟨p1, p2⟩
      dsimp only at p1 p2
      subst p1
      have e2 := hF K p2.1
      have same : (FV I a k = NO ∨ ¬ (FV I b l ≠ NO ∧ k &&& l = 0)) → MR I K (nI n) (nI (r + r2)) (if FV I a k = NO then jdr (FV I a) (FV I b) k else pin (FV I b) (fun x y => x ||| y) (fun x y => FV I a x + FV I b y) (fun x y => x &&& y = 0) k (jdr (FV I a) (FV I b) k) (l + 1)) := fun hc => by
        by_cases c : FV I a k = NO
        · rw [if_pos c]
          rw [if_pos c] at p2
          exact p2
        · rw [if_neg c, pin_f (hc.resolve_left c)]
          rw [if_neg c] at p2
          exact p2
      unfold m_237_b34
      dsimp only
      rw [s_197 ha hn e2.2.2, o_b1_s, if_neg (show ¬ nI (2 ^ n - 1) < nI l by rw [i_lt (by omega) (by omega)]; omega), i_and, q_e0 (Nat.lt_of_le_of_lt Nat.and_le_left (by omega))]
      by_cases c1 : k &&& l = 0
      · rw [if_pos c1, s_199 ha (by omega), o_b1_s, q_bz, e2.1]
        by_cases c2 : FV I a k ≠ NO
        · rw [if_pos c2, s_199 hb (by omega), o_b1_s, q_bz, e2.2.1]
          by_cases c3 : FV I b l ≠ NO
          · rw [if_pos c3, s_198 ha (by omega), o_b1_s, s_198 hb (by omega), o_b1_s, i_or, e2.1, e2.2.1]
            rw [if_neg c2] at p2
            refine wp_b1 (wp_mono (s_220 (t := t) (L := L) (k := k ||| l) (x := FV I a k + FV I b l) p2 (bit_or_lt (by omega) (by omega))) ?_)
            rintro N ⟨hN, -⟩
            rw [i_add, o_b1_s, wp_s, lq_l]
            refine ⟨rfl, ?_⟩
            rw [if_neg c2, pin_t ⟨c3, c1⟩]
            exact hN
          · rw [if_neg c3, i_add, o_b1_s, wp_s, lq_l]
            exact ⟨rfl, same (Or.inr (fun h => c3 h.1))⟩
        · rw [if_neg c2, i_add, o_b1_s, wp_s, lq_l]
          exact ⟨rfl, same (Or.inl (Decidable.not_not.1 c2))⟩
      · rw [if_neg c1, i_add, o_b1_s, wp_s, lq_l]
        exact ⟨rfl, same (Or.inr (fun h => c1 h.2))⟩
    · rintro ⟨s, K⟩ ⟨p1, p2⟩
      dsimp only at p1 p2
      subst p1
      have e2 := hF K p2.1
      unfold m_237_b34
      dsimp only
      rw [s_197 ha hn e2.2.2, o_b1_s, if_pos (show nI (2 ^ n - 1) < nI (2 ^ n) by rw [i_lt (by omega) (by omega)]; omega), wp_s, lq_r]
      unfold m_237_x34_98
      rw [i_add, o_b1_s, wp_s, lq_l]
      refine ⟨rfl, ?_⟩
      unfold jdr
      by_cases c : FV I a k = NO
      · rw [if_pos c] at p2
        rw [pou_f c]
        exact p2
      · have hup := pin_up (W := FV I b) (op := fun x y => x ||| y) (val := fun x y => FV I a x + FV I b y) (cond := fun x y => x &&& y = 0) (k := k) (D := jdr (FV I a) (FV I b) k) (WF_hi hW) (256 - 2 ^ n) (by omega)
        rw [show 2 ^ n + (256 - 2 ^ n) = 256 by omega] at hup
        rw [if_neg c, ← hup] at p2
        rw [pou_t c]
        exact p2
  · rintro ⟨s, M⟩ ⟨g1, g2⟩
    dsimp only at g1 g2
    subst g1
    have e1 := hF M g2.1
    unfold m_237_b22
    dsimp only
    rw [s_197 ha hn e1.2.2, o_b1_s, if_pos (show nI (2 ^ n - 1) < nI (2 ^ n) by rw [i_lt (by omega) (by omega)]; omega), wp_s, lq_r]
    refine ⟨M, rfl, ?_⟩
    have hup := pou_up (V := FV I a) (W := FV I b) (op := fun x y => x ||| y) (val := fun x y => FV I a x + FV I b y) (cond := fun x y => x &&& y = 0) (WF_hi hV) (256 - 2 ^ n) (by omega)
    rw [show 2 ^ n + (256 - 2 ^ n) = 256 by omega] at hup
    unfold jdr at g2 ⊢
    rw [hup]
    exact g2
