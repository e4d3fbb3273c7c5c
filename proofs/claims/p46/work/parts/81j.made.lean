/-! The law makes a shelf: the whole. -/
theorem mn_e {n k : Nat} (hn : 1 ≤ n) (hn9 : n < 1000) (hk : k < 1000) : (if nI n - nI 1 < nI k then nI n - nI 1 else nI k) = nI (min (n - 1) k) := by
  rw [i_sub hn, q_lt (by omega) (by omega)]
  by_cases c : n - 1 < k
  · rw [if_pos c, Nat.min_eq_left (by omega)]
  · rw [if_neg c, Nat.min_eq_right (by omega)]
theorem nz_t {n : Nat} (h : 0 < n) (h2 : n < 2147483648) : o_nzI (nI n) = true := decide_eq_true (fun h9 => by rw [i_e0 h2] at h9; omega)
theorem wd_m : ∀ k, k < 4 → 4 ≤ (WD (k + 1)).length ∧ (WD (k + 1)).length ≤ 7 ∧ ∀ i, i < 7 → (WD (k + 1)).getD i 0 < 256 := by decide
theorem EDG_p {hi n : Nat} {ws : List Int32} (hl : ws.length = 2 * n) (h : ∀ i, i < n → EDG hi ws i) : (∀ i, i < 2 * n → ∃ x, x ≤ hi ∧ ws.getD i 0 = nI x) ∧ (hi < 100 → ∀ i, i < n → ¬ ws.getD (2 * i) 0 = ws.getD (2 * i + 1) 0) ∧ (hi ≤ n → ∀ i, i < hi → ws.getD (2 * i) 0 = nI i ∧ ws.getD (2 * i + 1) 0 = nI (i + 1)) := by
  refine ⟨fun i hi' => ?_, fun h100 i hi' => ?_, fun hhn i hi' => ?_⟩
  · obtain ⟨a, b, h1, h2, h3, h4, -⟩ := h (i / 2) (by omega)
    rcases (by omega : i = 2 * (i / 2) ∨ i = 2 * (i / 2) + 1) with e | e
    · rw [e]
      exact ⟨a, h3, h1⟩
    · rw [e]
      exact ⟨b, h4, h2⟩
  · obtain ⟨a, b, h1, h2, h3, h4, h5, -⟩ := h i hi'
    rw [h1, h2, i_eq (by omega) (by omega)]
    exact h5
  · obtain ⟨a, b, h1, h2, h3, h4, h5, h6⟩ := h i (by omega)
    obtain ⟨rfl, rfl⟩ := h6 hi'
    exact ⟨h1, h2⟩
theorem k_j1495 {I : ai_I} {tt t r s n hi kind wa : Nat} {L : ai_G} {A : SV} (h : KA I A) (hz : 74 ≤ L.2.2) (hz9 : L.2.2 + 11 < 900) (ht : ary L t 240) (hr : ary L r 1) (htr : ¬ t = r) (h0 : I 1 4 = nI 0) (hs : s < 4) (hn : 3 ≤ n) (hn7 : n < 7) (hh1 : 1 ≤ hi) (hh3 : hi ≤ 3) (hhn : hi < n) (hk : kind < 4) (hw : ary L wa (WD (kind + 1)).length) (hwt : ¬ wa = t) (hwc : ∀ i, i < (WD (kind + 1)).length → I wa i = nI ((WD (kind + 1)).getD i 0)) : wp (m_122_j1495 1 (nI s) (nI n) (nI kind) r (Rc tt) t (Gc L) I (nI hi) wa) (fun q => ∃ J, OT I J t r ∧ FIN J A L s n q) := by
  obtain ⟨w1, w2, w3⟩ := wd_m kind hk
  unfold m_122_j1495
  refine wp_b2 (wp_mono (k_word ht hw hwt rfl (by omega) (fun i hi' => ⟨w3 i (by omega), hwc i hi'⟩)) ?_)
  rintro ⟨x, J0⟩ ⟨g1, g2, g3⟩
  dsimp only at g1 g2 g3 ⊢
  subst g1
  have g4 : MS I t r (WD (kind + 1)) [] (WD (kind + 1)).length J0 := ⟨fun c c1 _ => g2 c c1, g3⟩
  refine wp_b2 (wp_mono (m_num ht (by omega) (sml_n (d := s) (by omega)) g4) ?_)
  rintro ⟨x, J1⟩ ⟨e1, a1, a2, a3, a4⟩
  dsimp only at a1 a4 ⊢
  subst a1
  refine wp_b2 (wp_mono (m_num ht (by omega) (sml_n (d := n) (by omega)) a4) ?_)
  rintro ⟨x, J2⟩ ⟨e2, b1, b2, b3, b4⟩
  dsimp only at b1 b4 ⊢
  subst b1
  have b5 : MS I t r (WD (kind + 1)) [nI s, nI n] e2 J2 := b4
  have fin : ∀ {hi e : Nat} {vs : List Int32} {J : ai_I}, 1 ≤ hi → hi < 1000 → e ≤ 200 → ¬ vs = [] → MS I t r (WD (kind + 1)) vs e J → (∀ T, TXT T e (WD (kind + 1)).length vs → ∃ f N D, bdp T e (kind + 1) 0 (hdp T e (kind + 1) (.inr ((WD (kind + 1)).length, 0, fun _ => 0))) = .inr (e, f, N) ∧ N 0 = nI s ∧ DRk A (kind + 1) N f n hi D ∧ okd D) → wp (m_122_j1811 1 (nI s) (nI n) (Rc tt) t (Gc L) (nI hi) (nI e) J) (fun q => ∃ J, OT I J t r ∧ FIN J A L s n q) := fun f1 f2 f3 f4 f5 f6 => wp_mono (k_mk h hz hz9 ht hr h0 hs (by omega) f1 f2 f3 (by omega) (by omega) f4 f5 f6) (fun q hq => ⟨_, f5.1, hq⟩)
  clear a4 b4 g4 g3 g2 w3 hwc
  rcases (by omega : kind = 0 ∨ kind = 1 ∨ kind = 2 ∨ kind = 3) with rfl | rfl | rfl | rfl
  · rw [if_pos (show nI 0 = 0 from rfl)]
    refine wp_b2 (wp_mono (m_num ht (by omega) (sml_n (d := hi) (by omega)) b5) ?_)
    rintro ⟨x, J3⟩ ⟨e3, c1, c2, c3, c4⟩
    dsimp only at c1 c4 ⊢
    subst c1
    exact fin hh1 (by omega) (by omega) (fun h9 => by cases h9) c4 (fun T hT => p_uni hs (by omega) (by omega) hh1 hhn hT)
  · rw [if_neg (show ¬ nI 1 = 0 by decide), if_pos rfl]
    refine wp_b2 (wp_mono (m_num ht (by omega) (sml_n (d := hi) (by omega)) b5) ?_)
    rintro ⟨x, J3⟩ ⟨e3, c1, c2, c3, c4⟩
    dsimp only at c1 c4 ⊢
    subst c1
    have hm : hi * n ≤ 3 * 6 := Nat.mul_le_mul hh3 (by omega)
    refine wp_s1 (wp_mono (m_l1 (hi := hi) (n := n) ht hr htr (by omega) (by omega) c4) ?_)
    rintro ⟨x, J4⟩ ⟨ws, e4, d1, d2, d3, d4, d5⟩
    dsimp only at d1 d5 ⊢
    subst d1
    unfold m_122_x1545_1580
    exact fin hh1 (by omega) (by omega) (fun h9 => by cases h9) d5 (fun T hT => p_mat hs (by omega) (by omega) hh1 hhn d3 d4 hT)
  · rw [if_neg (show ¬ nI 2 = 0 by decide), if_neg (show ¬ nI 2 = nI 1 by decide), if_pos rfl]
    refine wp_b2 (wp_mono (m_next hr htr b5) ?_)
    rintro ⟨v, J3⟩ ⟨v', v1, v2, v3⟩
    dsimp only at v2 v3 ⊢
    subst v2
    have hmn : 0 < min (n - 1) 4 ∧ min (n - 1) 4 ≤ n - 1 ∧ min (n - 1) 4 ≤ 4 := by omega
    rw [mn_e (by omega) (by omega) (by decide), o_b1_s]
    generalize min (n - 1) 4 = mn at hmn
    rw [nz_t hmn.1 (by omega), o_g_t, k_rem (by omega) hmn.1 (by omega)]
    have hc := Nat.mod_lt v' hmn.1
    generalize v' % mn = c at hc
    rw [i_add, o_b1_s, i_sub (by omega), o_b1_s, show 2 + c = (c + 1) + 1 by omega, show (c + 1) + 1 - 1 = c + 1 by omega]
    refine wp_b2 (wp_mono (m_num ht (by omega) (sml_n (d := c + 1 + 1) (by omega)) v3) ?_)
    rintro ⟨x, J4⟩ ⟨e3, c1, c2, c3, c4⟩
    dsimp only at c1 c4 ⊢
    subst c1
    refine wp_s1 (wp_mono (m_l2 (hi := c + 1) (n := n) ht hr htr (by omega) (by omega) (by omega) (by omega) c4) ?_)
    rintro ⟨x, J5⟩ ⟨ws, e4, d1, d2, d3, d4, d5⟩
    dsimp only at d1 d5 ⊢
    subst d1
    unfold m_122_x1625_1715
    obtain ⟨p1, p2, p3⟩ := EDG_p d3 d4
    exact fin (by omega) (by omega) (by omega) (fun h9 => by cases h9) d5 (fun T hT => p_gra hs (by omega) (by omega) (by omega) (by omega) (by omega) d3 p1 (p2 (by omega)) (p3 (by omega)) hT)
  · rw [if_neg (show ¬ nI 3 = 0 by decide), if_neg (show ¬ nI 3 = nI 1 by decide), if_neg (show ¬ nI 3 = nI 2 by decide)]
    refine wp_b2 (wp_mono (m_num ht (by omega) (sml_n (d := hi) (by omega)) b5) ?_)
    rintro ⟨x, J3⟩ ⟨e3, c1, c2, c3, c4⟩
    dsimp only at c1 c4 ⊢
    subst c1
    refine wp_s1 (wp_mono (m_l3 (hi := hi) (n := n) ht hr htr (by omega) hn7 hhn (by omega) c4) ?_)
    rintro ⟨x, J4⟩ ⟨ws, m, e4, d1, d2, d3, d4, d5, d6⟩
    dsimp only at d1 d6 ⊢
    subst d1
    unfold m_122_x1735_1811
    exact fin hh1 (by omega) (by omega) (fun h9 => by cases h9) d6 (fun T hT => p_tol hs (by omega) (by omega) hh1 hhn d3 d4 d5.1 d5.2.1 d5.2.2 hT)
/-- a sign of a word is written -/
theorem st_c {K : ai_I → Prop} {a m k : Nat} {v : Int32} {w : List Nat} {I : ai_I} {L : ai_G} {γ : Type} {F : ai_I → Option γ} {Q : γ → Prop} (hK : ∀ I J, ot I J a → K I → K J) (ha : ary L a m) (hk : k < m) (hm : m < 100) (hv : v = nI (w.getD k 0)) (h1 : K I) (h2 : ∀ i, i < k → I a i = nI (w.getD i 0)) (h : ∀ J, K J → (∀ i, i < k + 1 → J a i = nI (w.getD i 0)) → wp (F J) Q) : wp (o_g (o_in (Gc L) 13 a (nI k)) (o_b1 (some (va_up I a (va_up (I a) (nI k).toNatClampNeg v))) F)) Q := by
  rw [ay_in ha hk (by omega), o_g_t, o_b1_s, i_cl (by omega)]
  refine h _ (hK I _ (fun c hc => up_ne hc) h1) (fun i hi => ?_)
  rw [up_eq]
  by_cases c : i = k
  · rw [c, up_eq, hv]
  · rw [up_ne c]
    exact h2 i (by omega)
theorem k_made {I : ai_I} {tt r s n kind : Nat} {L : ai_G} {A : SV} (h : KA I A) (hz : 74 ≤ L.2.2) (hz9 : L.2.2 + 20 < 900) (hr : ary L r 1) (h0 : I 1 4 = nI 0) (hs : s < 4) (hn : 3 ≤ n) (hn7 : n < 7) (hk : kind < 4) : wp (m_122 1 (nI s) (nI n) (nI kind) r I (Rc tt) (Gc L)) (fun q => ∃ hi, 1 ≤ hi ∧ hi ≤ n ∧ q.1 = nI hi ∧ ∃ L', q.2.2.2 = Gc L' ∧ EX L L' ∧ L'.2.2 ≤ L.2.2 + 15 ∧ q.2.2.1 = Rc 42 ∧ q.2.1 1 4 = nI 0 ∧ FL L.2.2 r I q.2.1 ∧ ∃ A', KA q.2.1 A' ∧ A'.1 s = n ∧ A'.2.1 s = hi ∧ A'.2.2.2 = A.2.2.2) := by
  have hr1 := hr.1
  have hr2 := hr.2.1
  obtain ⟨z, hzz⟩ : ∃ z, z = L.2.2 := ⟨_, rfl⟩
  unfold m_122
  -- the arrays
  have z1 : (nw L 240).2.2 = z + 1 := by rw [nw_z, hzz]
  refine al_n hz (by omega) ?_
  refine al_n (L := nw L 240) (by omega) (by omega) ?_
  have z2 : (nw (nw L 240) 7).2.2 = z + 2 := by rw [nw_z, z1]
  have z3 : (nw (nw (nw L 240) 7) 5).2.2 = z + 3 := by rw [nw_z, z2]
  have z4 : (nw (nw (nw (nw L 240) 7) 5) 5).2.2 = z + 4 := by rw [nw_z, z3]
  have z5 : (nw (nw (nw (nw (nw L 240) 7) 5) 5) 4).2.2 = z + 5 := by rw [nw_z, z4]
  rw [z1, ← hzz]
  have t1 : ary (nw L 240) (z + 1) 240 := by rw [hzz]; exact nw_new hz
  have t2 : ary (nw (nw L 240) 7) (z + 1 + 1) 7 := by rw [← z1]; exact nw_new (by omega)
  have t3 : ary (nw (nw (nw L 240) 7) 5) (z + 2 + 1) 5 := by rw [← z2]; exact nw_new (by omega)
  have t4 : ary (nw (nw (nw (nw L 240) 7) 5) 5) (z + 3 + 1) 5 := by rw [← z3]; exact nw_new (by omega)
  have t5 : ary (nw (nw (nw (nw (nw L 240) 7) 5) 5) 4) (z + 4 + 1) 4 := by rw [← z4]; exact nw_new (by omega)
  have hx5 : EX L (nw (nw (nw (nw (nw L 240) 7) 5) 5) 4) := EX_tr (EX_nw (by omega)) (EX_tr (EX_nw (by omega)) (EX_tr (EX_nw (by omega)) (EX_tr (EX_nw (by omega)) (EX_nw (by omega)))))
  have K1 : ∀ a, z < a → a ≤ z + 5 → ∀ M N : ai_I, ot M N a → (∀ c, (c ≤ z ∨ c = 1999) → M c = I c) → ∀ c, (c ≤ z ∨ c = 1999) → N c = I c := fun a a1 a2 M N h1 h2 c hc => (h1 c (by omega)).trans (h2 c hc)
  refine st_c (K := fun J => ∀ c, (c ≤ z ∨ c = 1999) → J c = I c) (k := 0) (w := WD 1) (K1 _ (by omega) (by omega)) t2 (by decide) (by decide) rfl (fun c hc => by rw [up_ne (by omega), up_ne (by omega)]) (fun i hi => absurd hi (Nat.not_lt_zero _)) (fun J j1 j2 => ?_)
  refine st_c (K := fun J => ∀ c, (c ≤ z ∨ c = 1999) → J c = I c) (k := 1) (w := WD 1) (K1 _ (by omega) (by omega)) t2 (by decide) (by decide) rfl j1 j2 (fun J j1 j2 => ?_)
  refine st_c (K := fun J => ∀ c, (c ≤ z ∨ c = 1999) → J c = I c) (k := 2) (w := WD 1) (K1 _ (by omega) (by omega)) t2 (by decide) (by decide) rfl j1 j2 (fun J j1 j2 => ?_)
  refine st_c (K := fun J => ∀ c, (c ≤ z ∨ c = 1999) → J c = I c) (k := 3) (w := WD 1) (K1 _ (by omega) (by omega)) t2 (by decide) (by decide) rfl j1 j2 (fun J j1 j2 => ?_)
  refine st_c (K := fun J => ∀ c, (c ≤ z ∨ c = 1999) → J c = I c) (k := 4) (w := WD 1) (K1 _ (by omega) (by omega)) t2 (by decide) (by decide) rfl j1 j2 (fun J j1 j2 => ?_)
  refine st_c (K := fun J => ∀ c, (c ≤ z ∨ c = 1999) → J c = I c) (k := 5) (w := WD 1) (K1 _ (by omega) (by omega)) t2 (by decide) (by decide) rfl j1 j2 (fun J j1 j2 => ?_)
  refine st_c (K := fun J => ∀ c, (c ≤ z ∨ c = 1999) → J c = I c) (k := 6) (w := WD 1) (K1 _ (by omega) (by omega)) t2 (by decide) (by decide) rfl j1 j2 (fun J j1 j2 => ?_)
  refine al_n (by omega) (by omega) ?_
  rw [z2]
  have K2 : ∀ a, z + 2 < a → a ≤ z + 5 → ∀ M N : ai_I, ot M N a → ((∀ c, (c ≤ z ∨ c = 1999) → M c = I c) ∧ ∀ i, i < 7 → M (z + 1 + 1) i = nI ((WD 1).getD i 0)) → (∀ c, (c ≤ z ∨ c = 1999) → N c = I c) ∧ ∀ i, i < 7 → N (z + 1 + 1) i = nI ((WD 1).getD i 0) := fun a a1 a2 M N h1 h2 => ⟨K1 a (by omega) a2 M N h1 h2.1, fun i hi => by rw [h1 _ (by omega)]; exact h2.2 i hi⟩
  have j3 := K2 (z + 2 + 1) (by omega) (by omega) J (va_up J (z + 2 + 1) (fun _ => 0)) (fun c hc => up_ne hc) ⟨j1, j2⟩
  generalize va_up J (z + 2 + 1) (fun _ => 0) = M at j3
  clear j1 j2
  refine st_c (k := 0) (w := WD 2) (K2 _ (by omega) (by omega)) t3 (by decide) (by decide) rfl j3 (fun i hi => absurd hi (Nat.not_lt_zero _)) (fun J j1 j2 => ?_)
  refine st_c (k := 1) (w := WD 2) (K2 _ (by omega) (by omega)) t3 (by decide) (by decide) rfl j1 j2 (fun J j1 j2 => ?_)
  refine st_c (k := 2) (w := WD 2) (K2 _ (by omega) (by omega)) t3 (by decide) (by decide) rfl j1 j2 (fun J j1 j2 => ?_)
  refine st_c (k := 3) (w := WD 2) (K2 _ (by omega) (by omega)) t3 (by decide) (by decide) rfl j1 j2 (fun J j1 j2 => ?_)
  refine st_c (k := 4) (w := WD 2) (K2 _ (by omega) (by omega)) t3 (by decide) (by decide) rfl j1 j2 (fun J j1 j2 => ?_)
  refine al_n (by omega) (by omega) ?_
  rw [z3]
  have K3 : ∀ a, z + 3 < a → a ≤ z + 5 → ∀ M N : ai_I, ot M N a → (((∀ c, (c ≤ z ∨ c = 1999) → M c = I c) ∧ ∀ i, i < 7 → M (z + 1 + 1) i = nI ((WD 1).getD i 0)) ∧ ∀ i, i < 5 → M (z + 2 + 1) i = nI ((WD 2).getD i 0)) → ((∀ c, (c ≤ z ∨ c = 1999) → N c = I c) ∧ ∀ i, i < 7 → N (z + 1 + 1) i = nI ((WD 1).getD i 0)) ∧ ∀ i, i < 5 → N (z + 2 + 1) i = nI ((WD 2).getD i 0) := fun a a1 a2 M N h1 h2 => ⟨K2 a (by omega) a2 M N h1 h2.1, fun i hi => by rw [h1 _ (by omega)]; exact h2.2 i hi⟩
  have j4 := K3 (z + 3 + 1) (by omega) (by omega) J (va_up J (z + 3 + 1) (fun _ => 0)) (fun c hc => up_ne hc) ⟨j1, j2⟩
  generalize va_up J (z + 3 + 1) (fun _ => 0) = M at j4
  clear j1 j2
  refine st_c (k := 0) (w := WD 3) (K3 _ (by omega) (by omega)) t4 (by decide) (by decide) rfl j4 (fun i hi => absurd hi (Nat.not_lt_zero _)) (fun J j1 j2 => ?_)
  refine st_c (k := 1) (w := WD 3) (K3 _ (by omega) (by omega)) t4 (by decide) (by decide) rfl j1 j2 (fun J j1 j2 => ?_)
  refine st_c (k := 2) (w := WD 3) (K3 _ (by omega) (by omega)) t4 (by decide) (by decide) rfl j1 j2 (fun J j1 j2 => ?_)
  refine st_c (k := 3) (w := WD 3) (K3 _ (by omega) (by omega)) t4 (by decide) (by decide) rfl j1 j2 (fun J j1 j2 => ?_)
  refine st_c (k := 4) (w := WD 3) (K3 _ (by omega) (by omega)) t4 (by decide) (by decide) rfl j1 j2 (fun J j1 j2 => ?_)
  refine al_n (by omega) (by omega) ?_
  rw [z4]
  have K4 : ∀ a, z + 4 < a → a ≤ z + 5 → ∀ M N : ai_I, ot M N a → ((((∀ c, (c ≤ z ∨ c = 1999) → M c = I c) ∧ ∀ i, i < 7 → M (z + 1 + 1) i = nI ((WD 1).getD i 0)) ∧ ∀ i, i < 5 → M (z + 2 + 1) i = nI ((WD 2).getD i 0)) ∧ ∀ i, i < 5 → M (z + 3 + 1) i = nI ((WD 3).getD i 0)) → (((∀ c, (c ≤ z ∨ c = 1999) → N c = I c) ∧ ∀ i, i < 7 → N (z + 1 + 1) i = nI ((WD 1).getD i 0)) ∧ ∀ i, i < 5 → N (z + 2 + 1) i = nI ((WD 2).getD i 0)) ∧ ∀ i, i < 5 → N (z + 3 + 1) i = nI ((WD 3).getD i 0) := fun a a1 a2 M N h1 h2 => ⟨K3 a (by omega) a2 M N h1 h2.1, fun i hi => by rw [h1 _ (by omega)]; exact h2.2 i hi⟩
  have j5 := K4 (z + 4 + 1) (by omega) (by omega) J (va_up J (z + 4 + 1) (fun _ => 0)) (fun c hc => up_ne hc) ⟨j1, j2⟩
  generalize va_up J (z + 4 + 1) (fun _ => 0) = M at j5
  clear j1 j2
  refine st_c (k := 0) (w := WD 4) (K4 _ (by omega) (by omega)) t5 (by decide) (by decide) rfl j5 (fun i hi => absurd hi (Nat.not_lt_zero _)) (fun J j1 j2 => ?_)
  refine st_c (k := 1) (w := WD 4) (K4 _ (by omega) (by omega)) t5 (by decide) (by decide) rfl j1 j2 (fun J j1 j2 => ?_)
  refine st_c (k := 2) (w := WD 4) (K4 _ (by omega) (by omega)) t5 (by decide) (by decide) rfl j1 j2 (fun J j1 j2 => ?_)
  refine st_c (k := 3) (w := WD 4) (K4 _ (by omega) (by omega)) t5 (by decide) (by decide) rfl j1 j2 (fun J j1 j2 => ?_)
  have u2 := nw_old (n := 4) (nw_old (n := 5) (nw_old (n := 5) t2))
  have u3 := nw_old (n := 4) (nw_old (n := 5) t3)
  have u4 := nw_old (n := 4) t4
  have u1 := nw_old (n := 4) (nw_old (n := 5) (nw_old (n := 5) (nw_old (n := 7) t1)))
  have ur := hx5.2.1 r 1 hr
  generalize nw (nw (nw (nw (nw L 240) 7) 5) 5) 4 = M5 at *
  obtain ⟨⟨⟨y1, y2⟩, y3⟩, y4⟩ := j1
  -- the greatest size
  refine wp_b2 (wp_mono (k_next ur) ?_)
  rintro ⟨v, K⟩ ⟨v', v1, v2, v3⟩
  dsimp only at v2 v3 ⊢
  subst v2
  have hmn : 0 < min (n - 1) 3 ∧ min (n - 1) 3 ≤ n - 1 ∧ min (n - 1) 3 ≤ 3 := by omega
  rw [mn_e (by omega) (by omega) (by decide), o_b1_s]
  generalize min (n - 1) 3 = mn at hmn
  rw [nz_t hmn.1 (by omega), o_g_t, k_rem (by omega) hmn.1 (by omega)]
  have hc := Nat.mod_lt v' hmn.1
  generalize v' % mn = c at hc
  rw [i_add, o_b1_s]
  have hK : ∀ c, (c ≤ z ∨ c = 1999) → ¬ c = r → K c = I c := fun c c1 c2 => (v3 c c2).trans (y1 c c1)
  have hKA : KA K A := KA_f h (fun c c1 c2 => hK c (by omega) (by omega))
  have hK4 : K 1 4 = nI 0 := by rw [hK 1 (by omega) (by omega)]; exact h0
  have fin : ∀ q, (∃ J, OT K J (z + 1) r ∧ FIN J A M5 s n q) → (∃ hi, 1 ≤ hi ∧ hi ≤ n ∧ q.1 = nI hi ∧ ∃ L', q.2.2.2 = Gc L' ∧ EX L L' ∧ L'.2.2 ≤ z + 15 ∧ q.2.2.1 = Rc 42 ∧ q.2.1 1 4 = nI 0 ∧ FL z r I q.2.1 ∧ ∃ A', KA q.2.1 A' ∧ A'.1 s = n ∧ A'.2.1 s = hi ∧ A'.2.2.2 = A.2.2.2) := by
    rintro q ⟨N, n1, hi, f1, f2, L', f3, f4, f5, f6, f7, f8, A', f9, f10, f11, f12⟩
    have hW := (KA_s f9 hs).1.2.2.2.1
    refine ⟨hi, f1, by omega, f2, L', f3, EX_tr hx5 f4, by omega, f6, f7, fun c c1 c2 => ?_, A', f9, f10, f11, f12⟩
    rcases c2 with ⟨c2, c3⟩ | c2
    · rw [f8 c c2 (by omega), n1 c (by omega) c1]
      exact hK c (Or.inl c3) c1
    · rw [f8 c (by omega) (Or.inr c2), n1 c (by omega) c1]
      exact hK c (Or.inr c2) c1
  rw [hzz] at fin
  rcases (by omega : kind = 0 ∨ kind = 1 ∨ kind = 2 ∨ kind = 3) with rfl | rfl | rfl | rfl
  · rw [if_pos (show nI 0 = 0 from rfl)]
    exact wp_mono (k_j1495 (kind := 0) hKA (by omega) (by omega) u1 ur (by omega) hK4 hs hn hn7 (by omega) (by omega) (by omega) (by decide) u2 (by omega) (fun i hi => by rw [v3 _ (by omega)]; exact y2 i hi)) (by rw [hzz]; exact fin)
  · rw [if_neg (show ¬ nI 1 = 0 by decide), if_pos rfl]
    exact wp_mono (k_j1495 (kind := 1) hKA (by omega) (by omega) u1 ur (by omega) hK4 hs hn hn7 (by omega) (by omega) (by omega) (by decide) u3 (by omega) (fun i hi => by rw [v3 _ (by omega)]; exact y3 i hi)) (by rw [hzz]; exact fin)
  · rw [if_neg (show ¬ nI 2 = 0 by decide), if_neg (show ¬ nI 2 = nI 1 by decide), if_pos rfl]
    exact wp_mono (k_j1495 (kind := 2) hKA (by omega) (by omega) u1 ur (by omega) hK4 hs hn hn7 (by omega) (by omega) (by omega) (by decide) u4 (by omega) (fun i hi => by rw [v3 _ (by omega)]; exact y4 i hi)) (by rw [hzz]; exact fin)
  · rw [if_neg (show ¬ nI 3 = 0 by decide), if_neg (show ¬ nI 3 = nI 1 by decide), if_neg (show ¬ nI 3 = nI 2 by decide)]
    exact wp_mono (k_j1495 (kind := 3) hKA (by omega) (by omega) u1 ur (by omega) hK4 hs hn hn7 (by omega) (by omega) (by omega) (by decide) t5 (by omega) (fun i hi => by rw [v3 _ (by omega)]; exact j2 i hi)) (by rw [hzz]; exact fin)
