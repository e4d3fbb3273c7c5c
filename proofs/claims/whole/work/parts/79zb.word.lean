/-! Words: read by the reference. -/
def jN (n : Nat) : Int64 := Int64.ofNat n
theorem l_bv (a : Nat) : (jN a).toBitVec = BitVec.ofNat 64 a := rfl
theorem l_add (a b : Nat) : jN a + jN b = jN (a + b) := by
  apply Int64.toBitVec_inj.1
  rw [Int64.toBitVec_add, l_bv, l_bv, l_bv]
  exact (BitVec.ofNat_add ..).symm
theorem l_mul (a b : Nat) : jN a * jN b = jN (a * b) := by
  apply Int64.toBitVec_inj.1
  rw [Int64.toBitVec_mul, l_bv, l_bv, l_bv]
  exact (BitVec.ofNat_mul ..).symm
theorem l_sub {a b : Nat} (h : b ≤ a) : jN a - jN b = jN (a - b) := by
  have h2 : jN a = jN (a - b) + jN b := by
    rw [l_add, Nat.sub_add_cancel h]
  rw [h2]
  apply Int64.toBitVec_inj.1
  rw [Int64.toBitVec_sub, Int64.toBitVec_add]
  exact BitVec.add_sub_cancel _ _
theorem l_eq {a b : Nat} (ha : a < 9223372036854775808) (hb : b < 9223372036854775808) : (jN a = jN b) = (a = b) := by
  apply propext
  constructor
  · intro h
    have h2 := congrArg (fun x => x.toBitVec.toNat) h
    rw [l_bv, l_bv, BitVec.toNat_ofNat, BitVec.toNat_ofNat, Nat.mod_eq_of_lt (by omega), Nat.mod_eq_of_lt (by omega)] at h2
    exact h2
  · intro h
    rw [h]
theorem l_i : ∀ c, c < 256 → (nI c).toInt64 = jN c := by decide +kernel
def cod (g : Nat → Nat) : Nat → Nat
  | 0 => 0
  | i + 1 => 32 * cod g i + (g i - 96)
theorem cod_lt {g : Nat → Nat} : ∀ m, (∀ i, i < m → 97 ≤ g i ∧ g i ≤ 122) → cod g m < 32 ^ m
  | 0, _ => Nat.one_pos
  | m + 1, h => by
    have h1 := cod_lt m (fun i hi => h i (by omega))
    have h2 := h m (by omega)
    unfold cod
    rw [Nat.pow_succ]
    omega
theorem cod_inj {g h : Nat → Nat} : ∀ m l, (∀ i, i < m → 97 ≤ g i ∧ g i ≤ 122) → (∀ i, i < l → 97 ≤ h i ∧ h i ≤ 122) → cod g m = cod h l → m = l ∧ ∀ i, i < m → g i = h i
  | 0, 0, _, _, _ => ⟨rfl, fun i hi => absurd hi (Nat.not_lt_zero _)⟩
  | 0, l + 1, _, hh, e => by
    have := hh l (by omega)
    unfold cod at e
    omega
  | m + 1, 0, hg, _, e => by
    have := hg m (by omega)
    unfold cod at e
    omega
  | m + 1, l + 1, hg, hh, e => by
    have a1 := hg m (by omega)
    have a2 := hh l (by omega)
    have e' : 32 * cod g m + (g m - 96) = 32 * cod h l + (h l - 96) := e
    obtain ⟨b1, b2⟩ := cod_inj m l (fun i hi => hg i (by omega)) (fun i hi => hh i (by omega)) (by omega)
    subst b1
    refine ⟨rfl, fun i hi => ?_⟩
    by_cases c : i = m
    · rw [c]
      omega
    · exact b2 i (by omega)
theorem cod_cong {g h : Nat → Nat} : ∀ m, (∀ i, i < m → g i = h i) → cod g m = cod h m
  | 0, _ => rfl
  | m + 1, e => by
    unfold cod
    rw [cod_cong m (fun i hi => e i (by omega)), e m (by omega)]
/-- the long that the reference has for the m letters from p on -/
def wv (T : Nat → Nat) (p m : Nat) : Int64 := if m ≤ 8 then jN (cod (fun i => T (p + i)) m) else -1
/-- the reference's names of kinds -/
def WC : Nat → Int64
  | 0 => 17376357
  | 1 => 23027990093
  | 2 => 13684840
  | 3 => 7931400
  | 4 => 671108
  | 5 => 152620
  | 6 => 25019301556
  | 7 => 89
  | 8 => 20194516
  | 9 => 537267
  | 10 => 3764
  | 11 => 10143540268
  | 12 => 18916965
  | 13 => 343342
  | _ => 0
theorem WC_c : ∀ k, k < 14 → WC k = jN (cod (fun i => (WD k).getD i 0) (WD k).length) := by decide +kernel
theorem WC_n : ∀ k, k < 14 → WC k ≠ -1 := by decide +kernel
theorem p32 {m : Nat} (h : m ≤ 8) : 32 ^ m ≤ 1099511627776 := Nat.le_trans (Nat.pow_le_pow_right (by decide) h) (by decide)
theorem WD_inj : ∀ a, a < 14 → ∀ b, b < 14 → WD a = WD b → a = b := by decide
theorem wv_is {T : Nat → Nat} {p m k : Nat} (hk : k < 14) (hT : ∀ i, i < m → 97 ≤ T (p + i) ∧ T (p + i) ≤ 122) : wv T p m = WC k ↔ isW T p (p + m) k = true := by
  have hl := wd_ln k hk
  have hb : (isW T p (p + m) k = true) ↔ slc T p (p + m) = WD k := decide_eq_true_iff
  have hm : p + m - p = m := by omega
  rw [hb]
  unfold wv
  by_cases c : m ≤ 8
  · have h1 := cod_lt (g := fun i => T (p + i)) m hT
    have h2 := cod_lt (g := fun i => (WD k).getD i 0) (WD k).length (wd_lt k hk)
    have h3 := p32 c
    have h4 := p32 (show (WD k).length ≤ 8 by omega)
    rw [if_pos c, WC_c k hk, l_eq (by omega) (by omega)]
    constructor
    · intro e
      obtain ⟨e1, e2⟩ := cod_inj _ _ hT (wd_lt k hk) e
      exact (slc_eq (by omega)).2 (fun i hi => e2 i (by omega))
    · intro e
      have e1 : (WD k).length = m := by rw [← e, slc_len, hm]
      rw [e1]
      exact cod_cong m (fun i hi => (slc_eq (by omega)).1 e i (by omega))
  · rw [if_neg c]
    constructor
    · intro e
      exact absurd e.symm (WC_n k hk)
    · intro e
      have : (WD k).length = m := by rw [← e, slc_len, hm]
      omega
/-- the reference's name for the word at p: that of its kind, or of none -/
theorem wv_kd {T : Nat → Nat} {n p : Nat} : ∀ k, k < 14 → (wv T p (rnl (ltr T n) p 256) = WC k ↔ kdw T p (wend T n p) = k) := fun k hk => by
  have hL : ∀ i, i < rnl (ltr T n) p 256 → 97 ≤ T (p + i) ∧ T (p + i) ≤ 122 := fun i hi => (ltr_i.1 (rnl_all _ _ i hi)).2
  rw [wv_is hk hL]
  unfold wend
  generalize rnl (ltr T n) p 256 = m
  have h1 := rnl_all (P := fun k => !isW T p (p + m) k) 14 0
  have h2 := rnl_end (P := fun k => !isW T p (p + m) k) 14 0
  have h3 := rnl_le (P := fun k => !isW T p (p + m) k) 14 0
  change ∀ j, j < kdw T p (p + m) → _ at h1
  change kdw T p (p + m) < 14 → ¬ (!isW T p (p + m) (0 + kdw T p (p + m))) = true at h2
  change kdw T p (p + m) ≤ 14 at h3
  constructor
  · intro e
    by_cases c : kdw T p (p + m) < 14
    · have h4 := h2 c
      rw [Nat.zero_add] at h4
      have h5 : isW T p (p + m) (kdw T p (p + m)) = true := by
        cases hh : isW T p (p + m) (kdw T p (p + m)) with
        | true => rfl
        | false => rw [hh] at h4; exact absurd rfl h4
      exact WD_inj _ c _ hk ((of_decide_eq_true h5).symm.trans (of_decide_eq_true e))
    · have := h1 k (by omega)
      rw [Nat.zero_add, e] at this
      cases this
  · intro e
    have h4 := h2 (by omega)
    rw [Nat.zero_add, e] at h4
    cases hh : isW T p (p + m) k with
    | true => rfl
    | false => rw [hh] at h4; exact absurd rfl h4
theorem s_211 {K0 K : ai_I} {J : ai_J} {t L n p f : Nat} {T : Nat → Nat} {N : Nat → Int32} (hT : TR K0 T n) (hp : p ≤ n) (h : RM K0 K p f N) : wp (m_211 75 K J (Rc t) (Gc L)) (fun r => (∀ c, ¬ c = 75 → r.1 c = K c) ∧ (∀ j, ¬ j = 4 → ¬ j = 9 → r.1 75 j = K 75 j) ∧ r.1 75 4 = nI (wend T n p) ∧ r.1 75 9 = nI p ∧ r.2 75 12 = wv T p (rnl (ltr T n) p 256) ∧ ∀ c, ¬ c = 75 → r.2 c = J c) := by
  have hT3 : ∀ k, k < n → T k < 256 := fun k hk => (hT.2.2 k hk).1
  have hn := hT.2.1
  have l1 : (97 : Int64) = (nI 97).toInt64 := by decide +kernel
  have l2 : (122 : Int64) = (nI 122).toInt64 := by decide +kernel
  have h8 : ∀ i M, p + i ≤ n → (∀ c, ¬ c = 75 → M c = K c) → (∀ j, ¬ j = 4 → ¬ j = 9 → M 75 j = K 75 j) → M 75 4 = nI (p + i) → m_208 75 M (Rc t) (Gc L) = some (sgI T n (p + i)) := fun i M hpi g3 g4 g5 => by
    unfold m_208 sgI
    rw [g4 5 (by decide) (by decide), h.1.2 5 (by decide) (by decide) (by decide) (by decide) (by decide), hT.1, g5, r_75_2]
    by_cases c : p + i < n
    · rw [if_neg (nI_ge c (by omega)), if_pos c, g_77 (by omega), o_g_t, i_cl (by omega), g3 77 (by decide), h.1.1 77 (by decide) (by decide), (hT.2.2 _ c).2, b255 _ (hT3 _ c)]
    · rw [if_pos (nI_le (by omega) (by omega)), if_neg c]
  have fin : ∀ i M (W : ai_J), i < 256 → (∀ j, j < i → ltr T n (p + j) = true) → ¬ ltr T n (p + i) = true → (∀ c, ¬ c = 75 → M c = K c) → (∀ j, ¬ j = 4 → ¬ j = 9 → M 75 j = K 75 j) → M 75 4 = nI (p + i) → M 75 9 = nI p → W 75 12 = jN (cod (fun i => T (p + i)) (min i 8)) → (∀ c, ¬ c = 75 → W c = J c) → wp (m_211_x13_81 75 M W) (fun r => (∀ c, ¬ c = 75 → r.1 c = K c) ∧ (∀ j, ¬ j = 4 → ¬ j = 9 → r.1 75 j = K 75 j) ∧ r.1 75 4 = nI (wend T n p) ∧ r.1 75 9 = nI p ∧ r.2 75 12 = wv T p (rnl (ltr T n) p 256) ∧ ∀ c, ¬ c = 75 → r.2 c = J c) := fun i M W hi g1 gs g3 g4 g5 g6 g7 g8 => by
    have e := rnl_is (P := ltr T n) 256 p i g1 (by omega) (Or.inr gs)
    have d : M 75 4 - M 75 9 = nI i := by rw [g5, g6, i_sub (by omega), show p + i - p = i by omega]
    unfold m_211_x13_81 wend wv
    rw [e]
    by_cases c : i ≤ 8
    · rw [if_pos (show M 75 4 - M 75 9 ≤ nI 8 by rw [d]; exact nI_le c (by omega)), wp_s, if_pos c]
      rw [show min i 8 = i by omega] at g7
      exact ⟨g3, g4, g5, g6, g7, g8⟩
    · rw [if_neg (show ¬ M 75 4 - M 75 9 ≤ nI 8 by rw [d]; exact nI_ge (by omega) (by omega)), o_b1_s, wp_s, if_neg c]
      exact ⟨g3, g4, g5, g6, by dsimp only; rw [up_eq, up_eq], fun c hc => by dsimp only; rw [up_ne hc]; exact g8 c hc⟩
  unfold m_211
  rw [h.2.1, o_b1_s, o_b1_s]
  refine wp_s1 (wp_lp (fun i s => (∀ j, j < i → ltr T n (p + j) = true) ∧ p + i ≤ n ∧ (∀ c, ¬ c = 75 → s.1 c = K c) ∧ (∀ j, ¬ j = 4 → ¬ j = 9 → s.1 75 j = K 75 j) ∧ s.1 75 4 = nI (p + i) ∧ s.1 75 9 = nI p ∧ s.2 75 12 = jN (cod (fun i => T (p + i)) (min i 8)) ∧ ∀ c, ¬ c = 75 → s.2 c = J c) 0 (n - p) (Nat.zero_le _) (by omega) ⟨fun j hj => absurd hj (Nat.not_lt_zero _), hp, fun c hc => up_ne hc, fun j j1 j2 => by dsimp only; rw [up_eq, up_ne j2], by dsimp only; rw [up_eq, up_ne (by decide)]; exact h.2.1, by dsimp only; rw [up_eq, up_eq], by dsimp only; rw [up_eq, up_eq]; rfl, fun c hc => up_ne hc⟩ ?_ ?_)
  · rintro i ⟨M, W⟩ hi ⟨g1, g2, g3, g4, g5, g6, g7, g8⟩
    dsimp only at g3 g4 g5 g6 g7 g8
    unfold m_211_b13
    dsimp only
    rw [h8 i M g2 g3 g4 g5, o_b1_s, l1, l2, s_189i, o_b1_s, q_bz]
    have hs := sg_in (T := T) (n := n) (p := p + i) hT3 (show 122 < 256 by decide) (show 97 ≤ 122 by decide)
    rw [← ltr_i] at hs
    by_cases c : nI 97 ≤ sgI T n (p + i) ∧ sgI T n (p + i) ≤ nI 122
    · have c' := hs.1 c
      have c2 := ltr_i.1 c'
      have fwd : ∀ W2 : ai_J, W2 75 12 = jN (cod (fun i => T (p + i)) (min (i + 1) 8)) → (∀ c, ¬ c = 75 → W2 c = J c) → wp (m_211_j68 75 M W2) (lq (fun s : ai_I × ai_J => (∀ j, j < i + 1 → ltr T n (p + j) = true) ∧ p + (i + 1) ≤ n ∧ (∀ c, ¬ c = 75 → s.1 c = K c) ∧ (∀ j, ¬ j = 4 → ¬ j = 9 → s.1 75 j = K 75 j) ∧ s.1 75 4 = nI (p + (i + 1)) ∧ s.1 75 9 = nI p ∧ s.2 75 12 = jN (cod (fun i => T (p + i)) (min (i + 1) 8)) ∧ ∀ c, ¬ c = 75 → s.2 c = J c) (fun t => wp (m_211_x13_81 75 t.1 t.2) (fun r => (∀ c, ¬ c = 75 → r.1 c = K c) ∧ (∀ j, ¬ j = 4 → ¬ j = 9 → r.1 75 j = K 75 j) ∧ r.1 75 4 = nI (wend T n p) ∧ r.1 75 9 = nI p ∧ r.2 75 12 = wv T p (rnl (ltr T n) p 256) ∧ ∀ c, ¬ c = 75 → r.2 c = J c))) := fun W2 hW hW2 => by
        unfold m_211_j68
        rw [g5, i_add, o_b1_s, wp_s, lq_l]
        refine ⟨fun j hj => ?_, by omega, fun c hc => by dsimp only; rw [up_ne hc]; exact g3 c hc, fun j j1 j2 => by dsimp only; rw [up_eq, up_ne j1]; exact g4 j j1 j2, by dsimp only; rw [up_eq, up_eq]; rfl, by dsimp only; rw [up_eq, up_ne (by decide)]; exact g6, hW, hW2⟩
        by_cases e : j = i
        · rw [e]
          exact c'
        · exact g1 j (by omega)
      have d : M 75 4 - M 75 9 = nI i := by rw [g5, g6, i_sub (by omega), show p + i - p = i by omega]
      rw [if_pos c]
      by_cases c3 : 8 ≤ i
      · rw [if_pos (show nI 8 ≤ M 75 4 - M 75 9 by rw [d]; exact nI_le c3 (by omega))]
        refine fwd W ?_ g8
        rw [g7, show min (i + 1) 8 = min i 8 by omega]
      · rw [if_neg (show ¬ nI 8 ≤ M 75 4 - M 75 9 by rw [d]; exact nI_ge (by omega) (by omega)), o_b1_s, o_b1_s]
        refine fwd _ ?_ (fun c hc => by rw [up_ne hc]; exact g8 c hc)
        have e1 : sgI T n (p + i) = nI (T (p + i)) := if_pos c2.1
        have hlt := hT3 _ c2.1
        rw [up_eq, up_eq, g7, e1, l_i _ hlt, show (nI 97).toInt64 = jN 97 from l_i 97 (by decide), show (32 : Int64) = jN 32 from rfl, show (1 : Int64) = jN 1 from rfl, l_mul, l_add, l_sub (by omega), l_add, show min i 8 = i by omega, show min (i + 1) 8 = i + 1 by omega]
        refine congrArg jN ?_
        show 32 * cod (fun i => T (p + i)) i + T (p + i) - 97 + 1 = 32 * cod (fun i => T (p + i)) i + (T (p + i) - 96)
        omega
    · rw [if_neg c, wp_s, lq_r]
      exact fin i M W (by omega) g1 (fun h => c (hs.2 h)) g3 g4 g5 g6 g7 g8
  · rintro ⟨M, W⟩ ⟨g1, g2, g3, g4, g5, g6, g7, g8⟩
    dsimp only at g3 g4 g5 g6 g7 g8
    have c : ¬ ltr T n (p + (n - p)) = true := fun h => by
      have := (ltr_i.1 h).1
      omega
    unfold m_211_b13
    dsimp only
    rw [h8 (n - p) M g2 g3 g4 g5, o_b1_s, l1, l2, s_189i, o_b1_s, q_bz]
    have hs := sg_in (T := T) (n := n) (p := p + (n - p)) hT3 (show 122 < 256 by decide) (show 97 ≤ 122 by decide)
    rw [← ltr_i] at hs
    rw [if_neg (fun h => c (hs.1 h)), wp_s, lq_r]
    exact fin (n - p) M W (by omega) g1 c g3 g4 g5 g6 g7 g8
