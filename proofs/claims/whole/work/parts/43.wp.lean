/-! Weakest preconditions for models; call spanned; call binary. Written through wip/whole/mk.py. -/
def wp {α : Type} (x : Option α) (Q : α → Prop) : Prop := ∃ a, x = some a ∧ Q a
theorem wp_s {α : Type} {a : α} {Q : α → Prop} : wp (some a) Q = Q a := propext ⟨fun ⟨b, h, hq⟩ => (by cases h; exact hq), fun h => ⟨a, rfl, h⟩⟩
theorem wp_b1 {α γ : Type} {x : Option α} {f : α → Option γ} {Q : γ → Prop} (h : wp x (fun a => wp (f a) Q)) : wp (o_b1 x f) Q := by
  obtain ⟨a, rfl, h⟩ := h
  exact h
theorem wp_b2 {α α2 γ : Type} {x : Option (α × α2)} {f : α → α2 → Option γ} {Q : γ → Prop} (h : wp x (fun a => wp (f a.1 a.2) Q)) : wp (o_b2 x f) Q := by
  obtain ⟨a, rfl, h⟩ := h
  exact h
theorem wp_s1 {α γ : Type} {x : Option α} {f : α → Option γ} {Q : γ → Prop} (h : wp x (fun a => wp (f a) Q)) : wp (o_s1 x f) Q := by
  obtain ⟨a, rfl, h⟩ := h
  exact h
def lq {α β : Type} (P : α → Prop) (Q : β → Prop) : α ⊕ β → Prop
  | .inl a => P a
  | .inr b => Q b
theorem lq_l {α β : Type} {P : α → Prop} {Q : β → Prop} {a : α} : lq P Q (.inl a) = P a := rfl
theorem lq_r {α β : Type} {P : α → Prop} {Q : β → Prop} {b : β} : lq P Q (.inr b) = Q b := rfl
theorem wp_s2 {α α2 γ : Type} {x : Option (α ⊕ α2)} {f : α → Option γ} {g : α2 → Option γ} {Q : γ → Prop} (h : wp x (lq (fun a => wp (f a) Q) (fun b => wp (g b) Q))) : wp (o_s2 x f g) Q := by
  obtain ⟨a, rfl, h⟩ := h
  cases a with
  | inl a => exact h
  | inr a => exact h
theorem wp_mono {α : Type} {x : Option α} {Q R : α → Prop} (h : wp x Q) (h2 : ∀ a, Q a → R a) : wp x R := by
  obtain ⟨a, e, h⟩ := h
  exact ⟨a, e, h2 a h⟩
theorem wp_of {α : Type} {x : Option α} {a : α} {Q : α → Prop} (h : x = some a) (h2 : Q a) : wp x Q := ⟨a, h, h2⟩
/-- a loop, by an invariant over its turns -/
theorem wp_lpn {σ ρ : Type} {b : σ → Option (σ ⊕ ρ)} {Q : ρ → Prop} (P : Nat → σ → Prop) (N : Nat)
    (hs : ∀ i s, i < N → P i s → wp (b s) (lq (P (i + 1)) Q)) (he : ∀ s, P N s → wp (b s) (lq (fun _ => False) Q)) : ∀ (n i : Nat) (s : σ) (fuel : Nat), i + n = N → P i s → n < fuel → wp (lp b fuel s) Q
  | 0, i, s, fuel, hi, hp, hf => by
    obtain ⟨f, rfl⟩ : ∃ f, fuel = f + 1 := ⟨fuel - 1, by omega⟩
    obtain rfl : i = N := by omega
    obtain ⟨a, e, h⟩ := he s hp
    cases a with
    | inl a => exact h.elim
    | inr r => exact ⟨r, lp_out e, h⟩
  | n + 1, i, s, fuel, hi, hp, hf => by
    obtain ⟨f, rfl⟩ : ∃ f, fuel = f + 1 := ⟨fuel - 1, by omega⟩
    obtain ⟨a, e, h⟩ := hs i s (by omega) hp
    cases a with
    | inl a =>
      rw [lp_in e]
      exact wp_lpn P N hs he n (i + 1) a f (by omega) h (by omega)
    | inr r => exact ⟨r, lp_out e, h⟩
theorem wp_lp {σ ρ : Type} {b : σ → Option (σ ⊕ ρ)} {Q : ρ → Prop} {s0 : σ} (P : Nat → σ → Prop) (i0 N : Nat) (hi : i0 ≤ N) (hN : N < 2000000) (h0 : P i0 s0)
    (hs : ∀ i s, i < N → P i s → wp (b s) (lq (P (i + 1)) Q)) (he : ∀ s, P N s → wp (b s) (lq (fun _ => False) Q)) : wp (lp b o_N s0) Q :=
  wp_lpn P N hs he (N - i0) i0 s0 o_N (by omega) h0 (by show N - i0 < 2000000; omega)
/-- a yes or no -/
def yn (p : Prop) (r : Int32) : Prop := (r = nI 1 ∧ p) ∨ (r = nI 0 ∧ ¬ p)
theorem yn_eq {p q : Prop} {a b : Int32} (h : yn p a) (h2 : yn q b) (e : p ↔ q) : a = b := by
  rcases h with ⟨h, hp⟩ | ⟨h, hp⟩
  · rcases h2 with ⟨h2, hq⟩ | ⟨h2, hq⟩
    · rw [h, h2]
    · exact absurd (e.1 hp) hq
  · rcases h2 with ⟨h2, hq⟩ | ⟨h2, hq⟩
    · exact absurd (e.2 hq) hp
    · rw [h, h2]
theorem yn_0 {p : Prop} {r : Int32} (h : yn p r) : (r = 0) = ¬ p := by
  rcases h with ⟨h, hp⟩ | ⟨h, hp⟩
  · rw [h]
    exact propext ⟨fun h2 => absurd h2 (by decide), fun h2 => absurd hp h2⟩
  · rw [h]
    exact propext ⟨fun _ => hp, fun _ => rfl⟩
theorem yn_bz {p : Prop} [Decidable p] : yn p (bz p) := by
  by_cases h : p
  · exact Or.inl ⟨bz_t h, h⟩
  · exact Or.inr ⟨bz_f h, h⟩
theorem j1_lit : (1 : Int64) = (nI 1).toInt64 := by decide +kernel
theorem op_spanned {I : ai_I} {t L : Nat} (h : ST I) (s x : Int32) : OPc I (m_155 1 s x I (Rc t) (Gc L)) (fun I1 => m_280 75 s x I1 (Rc t) (Gc L)) := by
  unfold m_155
  rw [r_1_0, k_2, o_g_t]
  rcases x_cases s (n := 3) (by decide) with ⟨k, hk, rfl⟩ | hs
  · rw [c_96 (by omega), o_b1_s, if_neg (by omega)]
    obtain ⟨n, r, hW, hC, hI, hIr⟩ := h.1 k (by omega)
    have hn := hW.2.1
    have hr := hW.2.2.2.1
    have hr1 := hW.2.2.1
    have hv := vc_s (s := k) (by omega)
    have ref : ∀ (J : ai_I) (w : Nat), w ≤ 1 → J 76 = I 76 → ∃ K, m_280 75 (nI k) (nI w) J (Rc t) (Gc L) = some (nI (if w = 0 then fln (pFz (FV I k) (r - 1)) (2 ^ n) else fln (spq (FV I k) n r) (2 ^ n)), K) ∧ (∀ c, ¬ c = 75 → ¬ c = 84 → K c = J c) ∧ (∀ j, ¬ j = 23 → K 75 j = J 75 j) := by
      intro J w hw hJ
      have hF : FV J k = FV I k := by
        unfold FV
        rw [hJ]
      obtain ⟨K, k1, k2, k3⟩ := s_span (I := J) (t := t) (L := L) (s := k) (n := n) (r := r) (by omega) (by rw [hF]; exact hW) (by rw [hJ]; exact hI) (by rw [hJ]; exact hIr)
      refine ⟨K, ?_, k2, k3⟩
      unfold m_280
      rw [s_200, o_b1_s, q_bz, if_pos (nI_in03 hk), j_lit.2.1, j1_lit, s_189i, o_b1_s, q_bz, if_pos ⟨nI_le (by omega) (by omega), nI_le hw (by decide)⟩, k1, o_s1_s]
      unfold m_280_x27_90
      rw [hF, q_e0 (by omega)]
      by_cases hw0 : w = 0
      · rw [if_pos hw0, if_pos hw0]
      · rw [if_neg hw0, if_neg hw0]
    rcases x_cases x (n := 1) (by decide) with ⟨w, hw, rfl⟩ | hx
    · rw [q_n0 (by omega), q_leT (by decide) hw, q_e0 (by omega)]
      by_cases hw0 : w = 0
      · subst hw0
        rw [if_pos rfl, v_kd hv, o_g_t, hC.2.1, i_sub (by omega), c_69 hv hW hC (by omega), o_b1_s]
        obtain ⟨K, k1, k2, k3⟩ := ref I 0 hw rfl
        refine ⟨_, I, K, rfl, k1, ⟨fun c hc => k2 c (by omega) (by omega), fun j _ => by rw [k2 76 (by decide) (by decide)], k2 77 (by decide) (by decide), k3 1 (by decide), k3 3 (by decide), k2 1999 (by decide) (by decide)⟩, rfl⟩
      · obtain ⟨J, j1, j2⟩ := c_span (t := t) (L := L) (show k < 4 by omega) hW hC
        rw [if_neg hw0, r_1_9, k_59, o_g_t, j1, o_b2_s]
        obtain ⟨K, k1, k2, k3⟩ := ref J w hw (j2 76 (by decide) (by decide))
        rw [if_neg hw0] at k1
        have e : ∀ c, ¬ c = 59 → ¬ c = 60 → ¬ c = 75 → ¬ c = 84 → K c = I c := fun c a1 a2 a3 a4 => (k2 c a3 a4).trans (j2 c a1 a2)
        refine ⟨_, J, K, rfl, k1, ⟨fun c hc => e c (by omega) (by omega) (by omega) (by omega), fun j _ => by rw [e 76 (by decide) (by decide) (by decide) (by decide)], e 77 (by decide) (by decide) (by decide) (by decide), ?_, ?_, e 1999 (by decide) (by decide) (by decide) (by decide)⟩, j2 1999 (by decide) (by decide)⟩
        · rw [k3 1 (by decide), j2 75 (by decide) (by decide)]
        · rw [k3 3 (by decide), j2 75 (by decide) (by decide)]
    · refine ⟨-1, I, I, ?_, ?_, SAME_rf, rfl⟩
      · by_cases h1 : x < 0
        · rw [if_pos h1]
        · rw [if_neg h1, if_neg (fun h2 => hx ⟨Int32.not_lt.1 h1, h2⟩)]
      · show m_280 75 (nI k) x I (Rc t) (Gc L) = _
        unfold m_280
        rw [s_200, o_b1_s, q_bz, if_pos (nI_in03 hk), j_lit.2.1, j1_lit, s_189i, o_b1_s, q_bz, if_neg hx]
  · rw [c_96o hs, o_b1_s, if_pos rfl]
    refine ⟨_, I, I, rfl, ?_, SAME_rf, rfl⟩
    show m_280 75 s x I (Rc t) (Gc L) = _
    unfold m_280
    rw [s_200, o_b1_s, q_bz, if_neg hs]
/-- four and each two of them raise by two -/
def Lin (V : Nat → Int32) (set four : Nat) : Prop := rk V (set ||| four) = rk V set + 2 ∧ ∀ i j, i < j → j < 8 → four.testBit i = true → four.testBit j = true → rk V (set ||| (2 ^ i ||| 2 ^ j)) = rk V set + 2
theorem c_85 {I : ai_I} {t L v n r set four : Nat} {V : Nat → Int32} (hv : v ∈ VC) (hW : WF n r V) (h : CS I v n r V) (hs : set < 2 ^ n) (hf : four < 2 ^ n) : wp (m_85 v (nI set) (nI four) I (Rc t) (Gc L)) (yn (Lin V set four)) := by
  have hn := hW.2.1
  have h8 := p2_le hn
  have ho : set ||| four < 256 := bit_or_lt (by omega) (by omega)
  have r1 := rk_le V set
  have r2 := rk_le V (set ||| four)
  simp (disch := omega) only [o_b1_s, o_b2_s, o_b3_s, o_b4_s, o_s1_s, o_s2_l, o_s2_r, o_g_t, i_add, i_mul, i_sub, i_and, i_or, i_xor, i_sd, i_shl, Nat.one_mul, i_eq, i_lt, i_le, i_n0, i_0le, i_e0, i_0lt, i_le0, i_cl, bz_0, wp_s, lq_l, lq_r, if_true, if_false, ite_not, true_and, and_true, m_85, v_kd hv, v_rr hv, v_gr hv, h.2.2.2.2.1]
  split
  · rename_i hc
    refine wp_s2 (wp_lp (fun i s => s = nI i ∧ ∀ a b, a < i → a < b → b < 8 → four.testBit a = true → four.testBit b = true → rk V (set ||| (2 ^ a ||| 2 ^ b)) = rk V set + 2) 0 n (Nat.zero_le _) (by omega) ⟨rfl, fun a b h => absurd h (Nat.not_lt_zero _)⟩ ?_ ?_)
    · rintro i s hi ⟨rfl, hP⟩
      have pi := p2_lt (show i < 8 by omega)
      simp (disch := omega) only [if_pos, if_neg, o_b1_s, o_b2_s, o_b3_s, o_b4_s, o_s1_s, o_s2_l, o_s2_r, o_g_t, i_add, i_mul, i_sub, i_and, i_or, i_xor, i_sd, i_shl, Nat.one_mul, i_eq, i_lt, i_le, i_n0, i_0le, i_e0, i_0lt, i_le0, i_cl, bz_0, wp_s, lq_l, lq_r, if_true, if_false, ite_not, true_and, and_true, m_85_b26, h.1]
      refine wp_s2 (wp_lp (fun j s => s = nI j ∧ i < j ∧ ∀ b, i < b → b < j → four.testBit i = true → four.testBit b = true → rk V (set ||| (2 ^ i ||| 2 ^ b)) = rk V set + 2) (i + 1) n (by omega) (by omega) ⟨rfl, by omega, fun b h h2 => absurd h2 (by omega)⟩ ?_ ?_)
      · rintro j s hj ⟨rfl, hij, hQ⟩
        have pj := p2_lt (show j < 8 by omega)
        have o1 : set ||| (2 ^ i ||| 2 ^ j) < 256 := bit_or_lt (by omega) (bit_or_lt pi pj)
        have r3 := rk_le V (set ||| (2 ^ i ||| 2 ^ j))
        simp (disch := omega) only [if_pos, if_neg, o_b1_s, o_b2_s, o_b3_s, o_b4_s, o_s1_s, o_s2_l, o_s2_r, o_g_t, i_add, i_mul, i_sub, i_and, i_or, i_xor, i_sd, i_shl, Nat.one_mul, i_eq, i_lt, i_le, i_n0, i_0le, i_e0, i_0lt, i_le0, i_cl, bz_0, wp_s, lq_l, lq_r, if_true, if_false, ite_not, true_and, and_true, m_85_b41, h.1, c_183, Nat.or_assoc, v_rr hv, v_gr hv, h.2.2.2.2.1]
        split
        · rename_i c1
          split
          · rename_i c2
            split
            · rename_i c3
              simp (disch := omega) only [o_b1_s, o_b2_s, o_b3_s, o_b4_s, o_s1_s, o_s2_l, o_s2_r, o_g_t, i_add, i_mul, i_sub, i_and, i_or, i_xor, i_sd, i_shl, Nat.one_mul, i_eq, i_lt, i_le, i_n0, i_0le, i_e0, i_0lt, i_le0, i_cl, bz_0, wp_s, lq_l, lq_r, if_true, if_false, ite_not, true_and, and_true]
              exact ⟨by omega, fun b h1 h2 h3 h4 => by
                by_cases hb : b = j
                · subst hb
                  exact c3
                · exact hQ b h1 (by omega) h3 h4⟩
            · rename_i c3
              simp (disch := omega) only [o_b1_s, o_b2_s, o_b3_s, o_b4_s, o_s1_s, o_s2_l, o_s2_r, o_g_t, i_add, i_mul, i_sub, i_and, i_or, i_xor, i_sd, i_shl, Nat.one_mul, i_eq, i_lt, i_le, i_n0, i_0le, i_e0, i_0lt, i_le0, i_cl, bz_0, wp_s, lq_l, lq_r, if_true, if_false, ite_not, true_and, and_true, m_85_x41_88, m_85_x26_88]
              exact Or.inr ⟨rfl, fun h2 => c3 (h2.2 i j hij (by omega) c1 c2)⟩
          · rename_i c2
            simp (disch := omega) only [o_b1_s, o_b2_s, o_b3_s, o_b4_s, o_s1_s, o_s2_l, o_s2_r, o_g_t, i_add, i_mul, i_sub, i_and, i_or, i_xor, i_sd, i_shl, Nat.one_mul, i_eq, i_lt, i_le, i_n0, i_0le, i_e0, i_0lt, i_le0, i_cl, bz_0, wp_s, lq_l, lq_r, if_true, if_false, ite_not, true_and, and_true]
            exact ⟨by omega, fun b h1 h2 h3 h4 => by
              by_cases hb : b = j
              · subst hb
                exact absurd h4 c2
              · exact hQ b h1 (by omega) h3 h4⟩
        · rename_i c1
          simp (disch := omega) only [o_b1_s, o_b2_s, o_b3_s, o_b4_s, o_s1_s, o_s2_l, o_s2_r, o_g_t, i_add, i_mul, i_sub, i_and, i_or, i_xor, i_sd, i_shl, Nat.one_mul, i_eq, i_lt, i_le, i_n0, i_0le, i_e0, i_0lt, i_le0, i_cl, bz_0, wp_s, lq_l, lq_r, if_true, if_false, ite_not, true_and, and_true]
          exact ⟨by omega, fun b h1 h2 h3 h4 => absurd h3 c1⟩
      · rintro j ⟨rfl, hij, hQ⟩
        simp (disch := omega) only [if_pos, if_neg, o_b1_s, o_b2_s, o_b3_s, o_b4_s, o_s1_s, o_s2_l, o_s2_r, o_g_t, i_add, i_mul, i_sub, i_and, i_or, i_xor, i_sd, i_shl, Nat.one_mul, i_eq, i_lt, i_le, i_n0, i_0le, i_e0, i_0lt, i_le0, i_cl, bz_0, wp_s, lq_l, lq_r, if_true, if_false, ite_not, true_and, and_true, m_85_b41, h.1, m_85_x41_96]
        intro a b h1 h2 h3 h4 h5
        by_cases ha : a = i
        · subst ha
          by_cases hb : b < n
          · exact hQ b h2 hb h4 h5
          · rw [tb_hi hf (by omega)] at h5
            cases h5
        · exact hP a b (by omega) h2 h3 h4 h5
    · rintro s ⟨rfl, hP⟩
      simp (disch := omega) only [if_pos, if_neg, o_b1_s, o_b2_s, o_b3_s, o_b4_s, o_s1_s, o_s2_l, o_s2_r, o_g_t, i_add, i_mul, i_sub, i_and, i_or, i_xor, i_sd, i_shl, Nat.one_mul, i_eq, i_lt, i_le, i_n0, i_0le, i_e0, i_0lt, i_le0, i_cl, bz_0, wp_s, lq_l, lq_r, if_true, if_false, ite_not, true_and, and_true, m_85_b26, h.1, m_85_x26_102]
      refine Or.inl ⟨rfl, hc, fun a b h1 h2 h3 h4 => hP a b ?_ h1 h2 h3 h4⟩
      apply Nat.lt_of_not_le
      intro h5
      rw [tb_hi hf h5] at h3
      cases h3
  · rename_i hc
    simp (disch := omega) only [o_b1_s, o_b2_s, o_b3_s, o_b4_s, o_s1_s, o_s2_l, o_s2_r, o_g_t, i_add, i_mul, i_sub, i_and, i_or, i_xor, i_sd, i_shl, Nat.one_mul, i_eq, i_lt, i_le, i_n0, i_0le, i_e0, i_0lt, i_le0, i_cl, bz_0, wp_s, lq_l, lq_r, if_true, if_false, ite_not, true_and, and_true]
    exact Or.inr ⟨rfl, fun h2 => hc h2.1⟩
theorem s_316 {I : ai_I} {t L s set m : Nat} (hs : s < 12) (h1 : set < 256) (h2 : m < 256) : m_316 75 (nI s) (nI set) (nI m) I (Rc t) (Gc L) = some (bz (rk (FV I s) (set ||| m) = rk (FV I s) set + 2)) := by
  have ho : set ||| m < 256 := bit_or_lt h1 h2
  have r1 := rk_le (FV I s) set
  have r2 := rk_le (FV I s) (set ||| m)
  simp (disch := omega) only [o_b1_s, o_b2_s, o_b3_s, o_b4_s, o_s1_s, o_s2_l, o_s2_r, o_g_t, i_add, i_mul, i_sub, i_and, i_or, i_xor, i_sd, i_shl, Nat.one_mul, i_eq, i_lt, i_le, i_n0, i_0le, i_e0, i_0lt, i_le0, i_cl, bz_0, wp_s, lq_l, lq_r, if_true, if_false, ite_not, true_and, and_true, m_316, s_250]
  split
  · rename_i c
    rw [bz_t c]
  · rename_i c
    rw [bz_f c]
theorem s_317 {I : ai_I} {t L s set four : Nat} (hs : s < 12) (h1 : set < 256) (h2 : four < 256) : wp (m_317 75 (nI s) (nI set) (nI four) I (Rc t) (Gc L)) (yn (Lin (FV I s) set four)) := by
  simp (disch := omega) only [o_b1_s, o_b2_s, o_b3_s, o_b4_s, o_s1_s, o_s2_l, o_s2_r, o_g_t, i_add, i_mul, i_sub, i_and, i_or, i_xor, i_sd, i_shl, Nat.one_mul, i_eq, i_lt, i_le, i_n0, i_0le, i_e0, i_0lt, i_le0, i_cl, bz_0, wp_s, lq_l, lq_r, if_true, if_false, ite_not, true_and, and_true, m_317, s_316]
  split
  · rename_i hc
    refine wp_s2 (wp_lp (fun i s_1 => s_1 = nI i ∧ ∀ a b, a < i → a < b → b < 8 → four.testBit a = true → four.testBit b = true → rk (FV I s) (set ||| (2 ^ a ||| 2 ^ b)) = rk (FV I s) set + 2) 0 8 (Nat.zero_le _) (by omega) ⟨rfl, fun a b h => absurd h (Nat.not_lt_zero _)⟩ ?_ ?_)
    · rintro i _ hi ⟨rfl, hP⟩
      have pi := p2_lt hi
      simp (disch := omega) only [if_pos, if_neg, o_b1_s, o_b2_s, o_b3_s, o_b4_s, o_s1_s, o_s2_l, o_s2_r, o_g_t, i_add, i_mul, i_sub, i_and, i_or, i_xor, i_sd, i_shl, Nat.one_mul, i_eq, i_lt, i_le, i_n0, i_0le, i_e0, i_0lt, i_le0, i_cl, bz_0, wp_s, lq_l, lq_r, if_true, if_false, ite_not, true_and, and_true, m_317_b15]
      refine wp_s2 (wp_lp (fun j s_1 => s_1 = nI j ∧ i < j ∧ ∀ b, i < b → b < j → four.testBit i = true → four.testBit b = true → rk (FV I s) (set ||| (2 ^ i ||| 2 ^ b)) = rk (FV I s) set + 2) (i + 1) 8 (by omega) (by omega) ⟨rfl, by omega, fun b h h2 => absurd h2 (by omega)⟩ ?_ ?_)
      · rintro j _ hj ⟨rfl, hij, hQ⟩
        have pj := p2_lt hj
        have o1 : 2 ^ i ||| 2 ^ j < 256 := bit_or_lt pi pj
        simp (disch := omega) only [if_pos, if_neg, o_b1_s, o_b2_s, o_b3_s, o_b4_s, o_s1_s, o_s2_l, o_s2_r, o_g_t, i_add, i_mul, i_sub, i_and, i_or, i_xor, i_sd, i_shl, Nat.one_mul, i_eq, i_lt, i_le, i_n0, i_0le, i_e0, i_0lt, i_le0, i_cl, bz_0, wp_s, lq_l, lq_r, if_true, if_false, ite_not, true_and, and_true, m_317_b28, s_192, s_316]
        split
        · rename_i c1
          split
          · rename_i c2
            split
            · rename_i c3
              simp (disch := omega) only [o_b1_s, o_b2_s, o_b3_s, o_b4_s, o_s1_s, o_s2_l, o_s2_r, o_g_t, i_add, i_mul, i_sub, i_and, i_or, i_xor, i_sd, i_shl, Nat.one_mul, i_eq, i_lt, i_le, i_n0, i_0le, i_e0, i_0lt, i_le0, i_cl, bz_0, wp_s, lq_l, lq_r, if_true, if_false, ite_not, true_and, and_true]
              exact ⟨by omega, fun b h1 h2 h3 h4 => by
                by_cases hb : b = j
                · subst hb
                  exact c3
                · exact hQ b h1 (by omega) h3 h4⟩
            · rename_i c3
              simp (disch := omega) only [o_b1_s, o_b2_s, o_b3_s, o_b4_s, o_s1_s, o_s2_l, o_s2_r, o_g_t, i_add, i_mul, i_sub, i_and, i_or, i_xor, i_sd, i_shl, Nat.one_mul, i_eq, i_lt, i_le, i_n0, i_0le, i_e0, i_0lt, i_le0, i_cl, bz_0, wp_s, lq_l, lq_r, if_true, if_false, ite_not, true_and, and_true, m_317_x28_71, m_317_x15_71]
              exact Or.inr ⟨rfl, fun h2 => c3 (h2.2 i j hij (by omega) c1 c2)⟩
          · rename_i c2
            simp (disch := omega) only [o_b1_s, o_b2_s, o_b3_s, o_b4_s, o_s1_s, o_s2_l, o_s2_r, o_g_t, i_add, i_mul, i_sub, i_and, i_or, i_xor, i_sd, i_shl, Nat.one_mul, i_eq, i_lt, i_le, i_n0, i_0le, i_e0, i_0lt, i_le0, i_cl, bz_0, wp_s, lq_l, lq_r, if_true, if_false, ite_not, true_and, and_true]
            exact ⟨by omega, fun b h1 h2 h3 h4 => by
              by_cases hb : b = j
              · subst hb
                exact absurd h4 c2
              · exact hQ b h1 (by omega) h3 h4⟩
        · rename_i c1
          simp (disch := omega) only [o_b1_s, o_b2_s, o_b3_s, o_b4_s, o_s1_s, o_s2_l, o_s2_r, o_g_t, i_add, i_mul, i_sub, i_and, i_or, i_xor, i_sd, i_shl, Nat.one_mul, i_eq, i_lt, i_le, i_n0, i_0le, i_e0, i_0lt, i_le0, i_cl, bz_0, wp_s, lq_l, lq_r, if_true, if_false, ite_not, true_and, and_true]
          exact ⟨by omega, fun b h1 h2 h3 h4 => absurd h3 c1⟩
      · rintro _ ⟨rfl, hij, hQ⟩
        simp (disch := omega) only [if_pos, if_neg, o_b1_s, o_b2_s, o_b3_s, o_b4_s, o_s1_s, o_s2_l, o_s2_r, o_g_t, i_add, i_mul, i_sub, i_and, i_or, i_xor, i_sd, i_shl, Nat.one_mul, i_eq, i_lt, i_le, i_n0, i_0le, i_e0, i_0lt, i_le0, i_cl, bz_0, wp_s, lq_l, lq_r, if_true, if_false, ite_not, true_and, and_true, m_317_b28, m_317_x28_79]
        intro a b h1 h2 h3 h4 h5
        by_cases ha : a = i
        · subst ha
          exact hQ b h2 h3 h4 h5
        · exact hP a b (by omega) h2 h3 h4 h5
    · rintro _ ⟨rfl, hP⟩
      simp (disch := omega) only [if_pos, if_neg, o_b1_s, o_b2_s, o_b3_s, o_b4_s, o_s1_s, o_s2_l, o_s2_r, o_g_t, i_add, i_mul, i_sub, i_and, i_or, i_xor, i_sd, i_shl, Nat.one_mul, i_eq, i_lt, i_le, i_n0, i_0le, i_e0, i_0lt, i_le0, i_cl, bz_0, wp_s, lq_l, lq_r, if_true, if_false, ite_not, true_and, and_true, m_317_b15, m_317_x15_85]
      exact Or.inl ⟨rfl, hc, fun a b h1 h2 h3 h4 => hP a b (by omega) h1 h2 h3 h4⟩
  · rename_i hc
    simp (disch := omega) only [o_b1_s, o_b2_s, o_b3_s, o_b4_s, o_s1_s, o_s2_l, o_s2_r, o_g_t, i_add, i_mul, i_sub, i_and, i_or, i_xor, i_sd, i_shl, Nat.one_mul, i_eq, i_lt, i_le, i_n0, i_0le, i_e0, i_0lt, i_le0, i_cl, bz_0, wp_s, lq_l, lq_r, if_true, if_false, ite_not, true_and, and_true]
    exact Or.inr ⟨rfl, fun h2 => hc h2.1⟩
def Nby (V : Nat → Int32) (set four : Nat) : Prop := set &&& four = 0 ∧ pc four = 4 ∧ Lin V set four
theorem c_84 {I : ai_I} {t L v n r : Nat} {V : Nat → Int32} (hv : v ∈ VC) (hW : WF n r V) (h : CS I v n r V) : wp (m_84 v I (Rc t) (Gc L)) (yn (∀ set four, set < 2 ^ n → four < 2 ^ n → ¬ Nby V set four)) := by
  have hn := hW.2.1
  have h8 := p2_le hn
  simp (disch := omega) only [o_b1_s, o_b2_s, o_b3_s, o_b4_s, o_s1_s, o_s2_l, o_s2_r, o_g_t, i_add, i_mul, i_sub, i_and, i_or, i_xor, i_sd, i_shl, Nat.one_mul, i_eq, i_lt, i_le, i_n0, i_0le, i_e0, i_0lt, i_le0, i_cl, bz_0, wp_s, lq_l, lq_r, if_true, if_false, ite_not, true_and, and_true, m_84]
  refine wp_s2 (wp_lp (fun i s_1 => s_1 = nI i ∧ ∀ set four, set < 2 ^ n → four < i → ¬ Nby V set four) 0 (2 ^ n) (Nat.zero_le _) (by omega) ⟨rfl, fun a b _ h => absurd h (Nat.not_lt_zero _)⟩ ?_ ?_)
  · rintro i _ hi ⟨rfl, hP⟩
    have hp := pc_le i
    simp (disch := omega) only [if_pos, if_neg, o_b1_s, o_b2_s, o_b3_s, o_b4_s, o_s1_s, o_s2_l, o_s2_r, o_g_t, i_add, i_mul, i_sub, i_and, i_or, i_xor, i_sd, i_shl, Nat.one_mul, i_eq, i_lt, i_le, i_n0, i_0le, i_e0, i_0lt, i_le0, i_cl, bz_0, wp_s, lq_l, lq_r, if_true, if_false, ite_not, true_and, and_true, m_84_b2, v_kd hv, c_118 hn h.1, s_331]
    split
    · rename_i hc
      refine wp_s2 (wp_lp (fun j s_1 => s_1 = nI j ∧ ∀ set, set < j → ¬ Nby V set i) 0 (2 ^ n) (Nat.zero_le _) (by omega) ⟨rfl, fun a h => absurd h (Nat.not_lt_zero _)⟩ ?_ ?_)
      · rintro j _ hj ⟨rfl, hQ⟩
        have ha : j &&& i < 256 := bit_and_lt (by omega)
        simp (disch := omega) only [if_pos, if_neg, o_b1_s, o_b2_s, o_b3_s, o_b4_s, o_s1_s, o_s2_l, o_s2_r, o_g_t, i_add, i_mul, i_sub, i_and, i_or, i_xor, i_sd, i_shl, Nat.one_mul, i_eq, i_lt, i_le, i_n0, i_0le, i_e0, i_0lt, i_le0, i_cl, bz_0, wp_s, lq_l, lq_r, if_true, if_false, ite_not, true_and, and_true, m_84_b20, c_118 hn h.1]
        split
        · rename_i c0
          refine wp_b1 (wp_mono (c_85 (t := t) (L := L) hv hW h hj hi) ?_)
          rintro y (⟨rfl, c1⟩ | ⟨rfl, c1⟩)
          · simp (disch := omega) only [if_pos, if_neg, o_b1_s, o_b2_s, o_b3_s, o_b4_s, o_s1_s, o_s2_l, o_s2_r, o_g_t, i_add, i_mul, i_sub, i_and, i_or, i_xor, i_sd, i_shl, Nat.one_mul, i_eq, i_lt, i_le, i_n0, i_0le, i_e0, i_0lt, i_le0, i_cl, bz_0, wp_s, lq_l, lq_r, if_true, if_false, ite_not, true_and, and_true, m_84_x20_43, m_84_x2_43]
            exact Or.inr ⟨rfl, fun h9 => h9 j i hj hi ⟨c0, hc, c1⟩⟩
          · simp (disch := omega) only [if_pos, if_neg, o_b1_s, o_b2_s, o_b3_s, o_b4_s, o_s1_s, o_s2_l, o_s2_r, o_g_t, i_add, i_mul, i_sub, i_and, i_or, i_xor, i_sd, i_shl, Nat.one_mul, i_eq, i_lt, i_le, i_n0, i_0le, i_e0, i_0lt, i_le0, i_cl, bz_0, wp_s, lq_l, lq_r, if_true, if_false, ite_not, true_and, and_true]
            intro set hset
            by_cases e : set = j
            · subst e
              exact fun h9 => c1 h9.2.2
            · exact hQ set (by omega)
        · rename_i c0
          simp (disch := omega) only [o_b1_s, o_b2_s, o_b3_s, o_b4_s, o_s1_s, o_s2_l, o_s2_r, o_g_t, i_add, i_mul, i_sub, i_and, i_or, i_xor, i_sd, i_shl, Nat.one_mul, i_eq, i_lt, i_le, i_n0, i_0le, i_e0, i_0lt, i_le0, i_cl, bz_0, wp_s, lq_l, lq_r, if_true, if_false, ite_not, true_and, and_true]
          intro set hset
          by_cases e : set = j
          · subst e
            exact fun h9 => c0 h9.1
          · exact hQ set (by omega)
      · rintro _ ⟨rfl, hQ⟩
        simp (disch := omega) only [if_pos, if_neg, o_b1_s, o_b2_s, o_b3_s, o_b4_s, o_s1_s, o_s2_l, o_s2_r, o_g_t, i_add, i_mul, i_sub, i_and, i_or, i_xor, i_sd, i_shl, Nat.one_mul, i_eq, i_lt, i_le, i_n0, i_0le, i_e0, i_0lt, i_le0, i_cl, bz_0, wp_s, lq_l, lq_r, if_true, if_false, ite_not, true_and, and_true, m_84_b20, c_118 hn h.1, m_84_x20_51]
        intro set four h1 h2
        by_cases e : four = i
        · subst e
          exact hQ set h1
        · exact hP set four h1 (by omega)
    · rename_i hc
      simp (disch := omega) only [o_b1_s, o_b2_s, o_b3_s, o_b4_s, o_s1_s, o_s2_l, o_s2_r, o_g_t, i_add, i_mul, i_sub, i_and, i_or, i_xor, i_sd, i_shl, Nat.one_mul, i_eq, i_lt, i_le, i_n0, i_0le, i_e0, i_0lt, i_le0, i_cl, bz_0, wp_s, lq_l, lq_r, if_true, if_false, ite_not, true_and, and_true]
      intro set four h1 h2
      by_cases e : four = i
      · subst e
        exact fun h9 => hc h9.2.1
      · exact hP set four h1 (by omega)
  · rintro _ ⟨rfl, hP⟩
    simp (disch := omega) only [if_pos, if_neg, o_b1_s, o_b2_s, o_b3_s, o_b4_s, o_s1_s, o_s2_l, o_s2_r, o_g_t, i_add, i_mul, i_sub, i_and, i_or, i_xor, i_sd, i_shl, Nat.one_mul, i_eq, i_lt, i_le, i_n0, i_0le, i_e0, i_0lt, i_le0, i_cl, bz_0, wp_s, lq_l, lq_r, if_true, if_false, ite_not, true_and, and_true, m_84_b2, v_kd hv, c_118 hn h.1, m_84_x2_57]
    exact Or.inl ⟨rfl, hP⟩
theorem op_binary {I : ai_I} {t L : Nat} (h : ST I) (s : Int32) : OPr (m_169 1 s I (Rc t) (Gc L)) (m_318 75 s I (Rc t) (Gc L)) := by
  unfold m_169 m_318
  rw [r_1_0, k_2, o_g_t, s_200, o_b1_s, q_bz]
  rcases x_cases s (n := 3) (by decide) with ⟨k, hk, rfl⟩ | hs
  · rw [c_96 (by omega), o_b1_s, if_neg (by omega), if_pos (nI_in03 hk)]
    obtain ⟨n, r, hW, hC, hI, -⟩ := h.1 k (by omega)
    have hn := hW.2.1
    have h8 := p2_le hn
    have h0 := Nat.two_pow_pos n
    have hv := vc_s (s := k) (by omega)
    obtain ⟨a, ha, hya⟩ := c_84 (t := t) (L := L) hv hW hC
    have hb : wp (o_s2 (lp (fun s => m_318_b11 75 (nI k) I (Rc t) (Gc L) s) o_N (nI 0)) (fun t => m_318_x11_55) (fun t => m_318_x11_69)) (yn (∀ set four, set < 2 ^ n → four < 2 ^ n → ¬ Nby (FV I k) set four)) := by
      refine wp_s2 (wp_lp (fun i s_1 => s_1 = nI i ∧ ∀ set four, set < i → four < 2 ^ n → ¬ Nby (FV I k) set four) 0 (2 ^ n) (Nat.zero_le _) (by omega) ⟨rfl, fun a b h => absurd h (Nat.not_lt_zero _)⟩ ?_ ?_)
      · rintro i _ hi ⟨rfl, hP⟩
        simp (disch := omega) only [if_pos, if_neg, o_b1_s, o_b2_s, o_b3_s, o_b4_s, o_s1_s, o_s2_l, o_s2_r, o_g_t, i_add, i_mul, i_sub, i_and, i_or, i_xor, i_sd, i_shl, Nat.one_mul, i_eq, i_lt, i_le, i_n0, i_0le, i_e0, i_0lt, i_le0, i_cl, bz_0, wp_s, lq_l, lq_r, if_true, if_false, ite_not, true_and, and_true, m_318_b11, s_197 (s := k) (by omega) hn hI]
        refine wp_s2 (wp_lp (fun j s_1 => s_1 = nI j ∧ ∀ four, four < j → ¬ Nby (FV I k) i four) 0 (2 ^ n) (Nat.zero_le _) (by omega) ⟨rfl, fun a h => absurd h (Nat.not_lt_zero _)⟩ ?_ ?_)
        · rintro j _ hj ⟨rfl, hQ⟩
          have ha : i &&& j < 256 := bit_and_lt (by omega)
          have hp := pc_le j
          simp (disch := omega) only [if_pos, if_neg, o_b1_s, o_b2_s, o_b3_s, o_b4_s, o_s1_s, o_s2_l, o_s2_r, o_g_t, i_add, i_mul, i_sub, i_and, i_or, i_xor, i_sd, i_shl, Nat.one_mul, i_eq, i_lt, i_le, i_n0, i_0le, i_e0, i_0lt, i_le0, i_cl, bz_0, wp_s, lq_l, lq_r, if_true, if_false, ite_not, true_and, and_true, m_318_b22, s_197 (s := k) (by omega) hn hI, s_193]
          split
          · rename_i c0
            split
            · rename_i hc
              refine wp_b1 (wp_mono (s_317 (t := t) (L := L) (I := I) (s := k) (set := i) (four := j) (by omega) (by omega) (by omega)) ?_)
              rintro y (⟨rfl, c1⟩ | ⟨rfl, c1⟩)
              · simp (disch := omega) only [if_pos, if_neg, o_b1_s, o_b2_s, o_b3_s, o_b4_s, o_s1_s, o_s2_l, o_s2_r, o_g_t, i_add, i_mul, i_sub, i_and, i_or, i_xor, i_sd, i_shl, Nat.one_mul, i_eq, i_lt, i_le, i_n0, i_0le, i_e0, i_0lt, i_le0, i_cl, bz_0, wp_s, lq_l, lq_r, if_true, if_false, ite_not, true_and, and_true, m_318_x22_55, m_318_x11_55]
                exact Or.inr ⟨rfl, fun h9 => h9 i j hi hj ⟨c0, hc, c1⟩⟩
              · simp (disch := omega) only [if_pos, if_neg, o_b1_s, o_b2_s, o_b3_s, o_b4_s, o_s1_s, o_s2_l, o_s2_r, o_g_t, i_add, i_mul, i_sub, i_and, i_or, i_xor, i_sd, i_shl, Nat.one_mul, i_eq, i_lt, i_le, i_n0, i_0le, i_e0, i_0lt, i_le0, i_cl, bz_0, wp_s, lq_l, lq_r, if_true, if_false, ite_not, true_and, and_true]
                intro four hf
                by_cases e : four = j
                · subst e
                  exact fun h9 => c1 h9.2.2
                · exact hQ four (by omega)
            · rename_i hc
              simp (disch := omega) only [o_b1_s, o_b2_s, o_b3_s, o_b4_s, o_s1_s, o_s2_l, o_s2_r, o_g_t, i_add, i_mul, i_sub, i_and, i_or, i_xor, i_sd, i_shl, Nat.one_mul, i_eq, i_lt, i_le, i_n0, i_0le, i_e0, i_0lt, i_le0, i_cl, bz_0, wp_s, lq_l, lq_r, if_true, if_false, ite_not, true_and, and_true]
              intro four hf
              by_cases e : four = j
              · subst e
                exact fun h9 => hc h9.2.1
              · exact hQ four (by omega)
          · rename_i c0
            simp (disch := omega) only [o_b1_s, o_b2_s, o_b3_s, o_b4_s, o_s1_s, o_s2_l, o_s2_r, o_g_t, i_add, i_mul, i_sub, i_and, i_or, i_xor, i_sd, i_shl, Nat.one_mul, i_eq, i_lt, i_le, i_n0, i_0le, i_e0, i_0lt, i_le0, i_cl, bz_0, wp_s, lq_l, lq_r, if_true, if_false, ite_not, true_and, and_true]
            intro four hf
            by_cases e : four = j
            · subst e
              exact fun h9 => c0 h9.1
            · exact hQ four (by omega)
        · rintro _ ⟨rfl, hQ⟩
          simp (disch := omega) only [if_pos, if_neg, o_b1_s, o_b2_s, o_b3_s, o_b4_s, o_s1_s, o_s2_l, o_s2_r, o_g_t, i_add, i_mul, i_sub, i_and, i_or, i_xor, i_sd, i_shl, Nat.one_mul, i_eq, i_lt, i_le, i_n0, i_0le, i_e0, i_0lt, i_le0, i_cl, bz_0, wp_s, lq_l, lq_r, if_true, if_false, ite_not, true_and, and_true, m_318_b22, s_197 (s := k) (by omega) hn hI, m_318_x22_63]
          intro set four h1 h2
          by_cases e : set = i
          · subst e
            exact hQ four h2
          · exact hP set four (by omega) h2
      · rintro _ ⟨rfl, hP⟩
        simp (disch := omega) only [if_pos, if_neg, o_b1_s, o_b2_s, o_b3_s, o_b4_s, o_s1_s, o_s2_l, o_s2_r, o_g_t, i_add, i_mul, i_sub, i_and, i_or, i_xor, i_sd, i_shl, Nat.one_mul, i_eq, i_lt, i_le, i_n0, i_0le, i_e0, i_0lt, i_le0, i_cl, bz_0, wp_s, lq_l, lq_r, if_true, if_false, ite_not, true_and, and_true, m_318_b11, s_197 (s := k) (by omega) hn hI, m_318_x11_69]
        exact Or.inl ⟨rfl, hP⟩
    obtain ⟨b, hb, hyb⟩ := hb
    rw [ha, o_b1_s, hb]
    refine ⟨b, ?_, rfl⟩
    rw [yn_eq hya hyb Iff.rfl]
    rcases hyb with ⟨e, -⟩ | ⟨e, -⟩
    · rw [e]
      rfl
    · rw [e]
      rfl
  · rw [c_96o hs, o_b1_s, if_pos rfl, if_neg hs]
    exact ⟨_, rfl, rfl⟩
