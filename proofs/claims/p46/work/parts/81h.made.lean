/-! The law makes a shelf. -/
/-- only t and r are written -/
def OT (I J : ai_I) (t r : Nat) : Prop := ∀ c, ¬ c = t → ¬ c = r → J c = I c
theorem TW_cong {I J : ai_I} {t e : Nat} {w : List Nat} {vs : List Int32} (h : TW I t w vs e) (e1 : J t = I t) : TW J t w vs e := by
  obtain ⟨h1, h2, h3⟩ := h
  have hx : ∀ k, tx J t k = tx I t k := fun k => by
    unfold tx
    rw [e1]
  exact ⟨fun k hk => by rw [e1]; exact h1 k hk, fun i hi => (hx i).trans (h2 i hi), TXT_cong h3 (fun k _ _ => hx k)⟩
/-- numbers told so far -/
def MS (I : ai_I) (t r : Nat) (w : List Nat) (vs : List Int32) (e : Nat) (J : ai_I) : Prop := OT I J t r ∧ TW J t w vs e
theorem m_num {I J : ai_I} {t r e : Nat} {L : ai_G} {v : Int32} {w : List Nat} {vs : List Int32} (ha : ary L t 240) (he : e + 4 ≤ 240) (hv : sml v) (h : MS I t r w vs e J) : wp (m_119 t (nI e) v J (Gc L)) (fun q => ∃ e', q.1 = nI e' ∧ e < e' ∧ e' ≤ e + 4 ∧ MS I t r w (vs ++ [v]) e' q.2) := by
  refine wp_mono (k_num ha he hv h.2) ?_
  rintro q ⟨e', h1, h2, h3, h4, h5⟩
  exact ⟨e', h1, h2, h3, fun c c1 c2 => (h4 c c1).trans (h.1 c c1 c2), h5⟩
theorem m_next {I J : ai_I} {t r e : Nat} {L : ai_G} {w : List Nat} {vs : List Int32} (hr : ary L r 1) (htr : ¬ t = r) (h : MS I t r w vs e J) : wp (m_118 r J (Gc L)) (fun q => ∃ v, v < 8388608 ∧ q.1 = nI v ∧ MS I t r w vs e q.2) := by
  refine wp_mono (k_next hr) ?_
  rintro q ⟨v, h1, h2, h3⟩
  exact ⟨v, h1, h2, fun c c1 c2 => (h3 c c2).trans (h.1 c c1 c2), TW_cong h.2 (h3 t htr)⟩
theorem gd_1 {vs : List Int32} {v : Int32} {j : Nat} (h : j < vs.length) : (vs ++ [v]).getD j 0 = vs.getD j 0 := by
  rw [List.getD_eq_getElem?_getD, List.getD_eq_getElem?_getD, List.getElem?_append_left h]
theorem gd_2 {vs : List Int32} {v : Int32} {j : Nat} (h : j = vs.length) : (vs ++ [v]).getD j 0 = v := by
  subst h
  rw [List.getD_eq_getElem?_getD, List.getElem?_append_right (Nat.le_refl _), Nat.sub_self]
  rfl
theorem ap_l {vs : List Int32} {v : Int32} : (vs ++ [v]).length = vs.length + 1 := by
  rw [List.length_append]
  rfl
theorem sml_all : ∀ d, d < 100 → ((-999 : Int32) ≤ nI d ∧ nI d ≤ nI 999 ∧ -999 ≤ (nI d).toInt ∧ (nI d).toInt ≤ 999 ∧ (-1000000 : Int32) ≤ nI d ∧ nI d ≤ nI 1000000) ∧ ((-999 : Int32) ≤ -nI d ∧ -nI d ≤ nI 999 ∧ -999 ≤ (-nI d).toInt ∧ (-nI d).toInt ≤ 999 ∧ (-1000000 : Int32) ≤ -nI d ∧ -nI d ≤ nI 1000000) := by decide +kernel
theorem sml_b {v : Int32} (h : sml v) : (-999 : Int32) ≤ v ∧ v ≤ nI 999 ∧ -999 ≤ v.toInt ∧ v.toInt ≤ 999 ∧ (-1000000 : Int32) ≤ v ∧ v ≤ nI 1000000 := by
  obtain ⟨d, hd, rfl | ⟨rfl, -⟩⟩ := h
  · exact (sml_all d hd).1
  · exact (sml_all d hd).2
theorem sml_sub_all : ∀ a, a < 41 → ∀ b, b < 21 → nI a - nI b = (if b ≤ a then nI (a - b) else -nI (b - a)) := by decide +kernel
theorem sml_sub {a b : Nat} (ha : a < 41) (hb : b < 21) : sml (nI a - nI b) := by
  rw [sml_sub_all a ha b hb]
  split
  · exact sml_n (by omega)
  · exact ⟨b - a, by omega, Or.inr ⟨rfl, by omega⟩⟩
/-- a shelf is made -/
def FIN (I : ai_I) (A : SV) (L : ai_G) (s n : Nat) (q : Int32 × ai_I × ai_R × ai_G) : Prop := ∃ hi, 1 ≤ hi ∧ q.1 = nI hi ∧ ∃ L', q.2.2.2 = Gc L' ∧ EX L L' ∧ L'.2.2 ≤ L.2.2 + 10 ∧ q.2.2.1 = Rc 42 ∧ q.2.1 1 4 = nI 0 ∧ (∀ c, 74 < c → (c ≤ L.2.2 ∨ c = 1999) → q.2.1 c = I c) ∧ ∃ A', KA q.2.1 A' ∧ A'.1 s = n ∧ A'.2.1 s = hi ∧ A'.2.2.2 = A.2.2.2
theorem k_mend {J : ai_I} {tt t s n hi e f kd : Nat} {L : ai_G} {A : SV} {w : List Nat} {vs : List Int32} {ks st : Nat → Nat} {N D : Nat → Int32} (h : KA J A) (hz : 74 ≤ L.2.2) (hz9 : L.2.2 + 11 < 900) (ht : ary L t 240) (h0 : J 1 4 = nI 0) (hs : s < 4) (hn : n < 1000) (hh1 : 1 ≤ hi) (hh : hi < 1000) (he1 : 1 ≤ e) (he : e ≤ 200) (hT : TW J t w vs e) (hr : rtx (tx J t) e 16 = .inr (1, ks, st, e, f, N)) (hk : ks 0 = kd) (hs0 : st 0 = 0) (hkd : ¬ kd = 0) (hN : N 0 = nI s) (hD : DRk A kd N f n hi D) (ok : okd D) : wp (m_122_j1811 1 (nI s) (nI n) (Rc tt) t (Gc L) (nI hi) (nI e) J) (FIN J A L s n) := by
  unfold m_122_j1811
  have hTT : ∀ k, k < e → tx J t k < 256 ∧ J t k = nI (tx J t k) := fun k hk => by
    obtain ⟨b, b1, b2⟩ := hT.1 k hk
    rw [tx_at b1 b2]
    exact ⟨b1, b2⟩
  refine wp_b2 (wp_mono (k_tell (tt := tt) (T := tx J t) hz hz9 ht he hTT h0) ?_)
  rintro ⟨K, G⟩ ⟨L', g1, g2, g3, g4, x, x1, x2, g5, g6⟩
  dsimp only at g1 g4 g5 g6 ⊢
  subst g1
  rw [if_neg (nI_ge (by omega) (by omega)), k_1, o_g_t]
  have hK : KA K A := KA_f h (fun c c1 c2 => g4 c (by omega) (by omega) (by omega))
  refine wp_b3 (wp_mono (k_orders (t := tt) (L := L') (T := tx J t) hK he1 he g5 (by omega) x1 (fun k hk => ⟨(hTT k hk).1, g6 k hk⟩) hr hk hs0 hkd hs hN hD ok) ?_)
  rintro ⟨v, M, R⟩ ⟨q1, q2, q3, q4, A', a1, a2, a3, a4⟩
  dsimp only at q1 q2 q3 q4 a1 ⊢
  subst q1
  subst q2
  rw [if_pos rfl, k_sh0 a1 hs, o_b2_s, a2, if_pos rfl, k_sh1 a1 hs, o_b2_s, a3, if_pos rfl]
  unfold m_122_j1863
  rw [if_neg (by decide), wp_s]
  exact ⟨hi, hh1, rfl, L', rfl, g2, g3, rfl, q3, fun c c1 c2 => (q4 c c1).trans (g4 c (by omega) (by omega) c2), A', a1, a2, a3, a4⟩
/-- a shelf is made of a text -/
theorem k_mk {I J : ai_I} {tt t r s n hi e kd : Nat} {L : ai_G} {A : SV} {vs : List Int32} (h : KA I A) (hz : 74 ≤ L.2.2) (hz9 : L.2.2 + 11 < 900) (ht : ary L t 240) (hr : ary L r 1) (h0 : I 1 4 = nI 0) (hs : s < 4) (hn : n < 1000) (hh1 : 1 ≤ hi) (hh : hi < 1000) (he : e ≤ 200) (hkd : ¬ kd = 0) (hk14 : kd < 14) (hv0 : ¬ vs = []) (hJ : MS I t r (WD kd) vs e J) (hb : ∀ T, TXT T e (WD kd).length vs → ∃ f N D, bdp T e kd 0 (hdp T e kd (.inr ((WD kd).length, 0, fun _ => 0))) = .inr (e, f, N) ∧ N 0 = nI s ∧ DRk A kd N f n hi D ∧ okd D) : wp (m_122_j1811 1 (nI s) (nI n) (Rc tt) t (Gc L) (nI hi) (nI e) J) (FIN J A L s n) := by
  obtain ⟨h1, h2⟩ := hJ
  have ht1 := ht.1
  have hr1 := hr.1
  obtain ⟨f, N, D, b1, b2, b3, b4⟩ := hb _ h2.2.2
  have hl := TXT_le h2.2.2
  have hp : (WD kd).length < e ∧ tx J t (WD kd).length = 32 := by
    rcases TXT_nx h2.2.2 with h9 | h9
    · have : 0 < vs.length := Nat.pos_of_ne_zero (fun h => hv0 (List.eq_nil_of_length_eq_zero h))
      omega
    · exact h9
  obtain ⟨ks, st, c1, c2, c3⟩ := rtx_ok hk14 hp.1 h2.2.1 hp.2 b1
  exact k_mend (KA_f h (fun c c1 c2 => h1 c (by omega) (by omega))) hz hz9 ht (by rw [h1 1 (by omega) (by omega)]; exact h0) hs hn hh1 hh (by omega) he h2 c1 c2 c3 hkd b2 b3 b4
theorem tx_end {T : Nat → Nat} {e q : Nat} (h : TXT T e q []) : q = e := h
theorem drop_all {vs : List Int32} : vs.drop vs.length = [] := List.drop_length
theorem p_uni {A : SV} {T : Nat → Nat} {s n hi e p : Nat} (hs : s < 4) (hn : 2 ≤ n) (hn8 : n ≤ 8) (hh : 1 ≤ hi) (hhn : hi < n) (h : TXT T e p [nI s, nI n, nI hi]) : ∃ f N D, bdp T e 1 0 (hdp T e 1 (.inr (p, 0, fun _ => 0))) = .inr (e, f, N) ∧ N 0 = nI s ∧ DRk A 1 N f n hi D ∧ okd D := by
  obtain ⟨q, N, e1, e2, e3, e4, e5⟩ := rr_ok (N := fun _ => 0) h hs hn hn8 hh hhn
  have e6 := tx_end e5
  subst e6
  obtain ⟨D, d1, d2⟩ := can_uni (A := A) (c := N) (cnt := 3) hn hn8 hh hhn e3 e4
  refine ⟨3, N, D, ?_, e2, d1, d2⟩
  show bdp T q 1 0 (rr T q (.inr (p, 0, fun _ => 0))) = _
  rw [e1]
  rfl
theorem p_mat {A : SV} {T : Nat → Nat} {s n hi e p : Nat} {vs : List Int32} (hs : s < 4) (hn : 2 ≤ n) (hn8 : n ≤ 8) (hh : 1 ≤ hi) (hhn : hi < n) (hl : vs.length = hi * n) (hv : ∀ i, i < vs.length → sml (vs.getD i 0)) (h : TXT T e p (nI s :: nI n :: nI hi :: vs)) : ∃ f N D, bdp T e 2 0 (hdp T e 2 (.inr (p, 0, fun _ => 0))) = .inr (e, f, N) ∧ N 0 = nI s ∧ DRk A 2 N f n hi D ∧ okd D := by
  obtain ⟨q, N, e1, e2, e3, e4, e5⟩ := rr_ok (N := fun _ => 0) h hs hn hn8 hh hhn
  obtain ⟨q2, N2, g1, g2, g3, g4⟩ := wt_ok (f := 3) (N := N) e5 (fun i hi => ⟨(sml_b (hv i hi)).1, (sml_b (hv i hi)).2.1⟩) vs.length (Nat.le_refl _)
  rw [drop_all] at g2
  have e6 := tx_end g2
  subst e6
  obtain ⟨D, d1, d2⟩ := can_mat (A := A) (c := N2) (cnt := 3 + vs.length) hn hn8 hh hhn (by rw [g3 1 (by decide)]; exact e3) (by rw [g3 2 (by decide)]; exact e4) (fun q e hq he => by
    have hx : q * n + e < hi * n := Nat.lt_of_lt_of_le (Nat.add_lt_add_left he _) (by rw [← Nat.succ_mul]; exact Nat.mul_le_mul_right n hq)
    rw [Nat.add_assoc, g4 _ (by omega)]
    exact ⟨(sml_b (hv _ (by omega))).2.2.1, (sml_b (hv _ (by omega))).2.2.2.1⟩)
  refine ⟨_, N2, D, ?_, by rw [g3 0 (by decide)]; exact e2, d1, d2⟩
  show bdp T q2 2 0 (rr T q2 (.inr (p, 0, fun _ => 0))) = _
  rw [e1]
  show wt T q2 (.inr (q, 3, N)) ((N (0 + 1)).toNatClampNeg * (N (0 + 2)).toNatClampNeg) = _
  rw [e3, e4, i_cl (by omega), i_cl (by omega), Nat.mul_comm, ← hl]
  exact g1
theorem p_gra {A : SV} {T : Nat → Nat} {s n hi e p : Nat} {vs : List Int32} (hs : s < 4) (hn : 2 ≤ n) (hn7 : n < 7) (hh : 1 ≤ hi) (hh5 : hi < 5) (hhn : hi < n) (hl : vs.length = 2 * n) (hv : ∀ i, i < 2 * n → ∃ x, x ≤ hi ∧ vs.getD i 0 = nI x) (hd : ∀ i, i < n → ¬ vs.getD (2 * i) 0 = vs.getD (2 * i + 1) 0) (hp : ∀ i, i < hi → vs.getD (2 * i) 0 = nI i ∧ vs.getD (2 * i + 1) 0 = nI (i + 1)) (h : TXT T e p (nI s :: nI n :: nI (hi + 1) :: vs)) : ∃ f N D, bdp T e 3 0 (hdp T e 3 (.inr (p, 0, fun _ => 0))) = .inr (e, f, N) ∧ N 0 = nI s ∧ DRk A 3 N f n hi D ∧ okd D := by
  obtain ⟨q, N, e1, e2, e3, e4, e5⟩ := gg_ok (N := fun _ => 0) h hs hn (by omega) (by omega) (by omega)
  obtain ⟨q2, N2, g1, g2, g3, g4⟩ := egs_ok (f := 3) (N := N) (hi := hi) e5 hl (by omega) hv hd n (Nat.le_refl _)
  rw [← hl, drop_all] at g2
  have e6 := tx_end g2
  subst e6
  obtain ⟨D, d1, d2⟩ := can_gra (A := A) (c := N2) (cnt := 3 + 2 * n) hn hn7 hh hh5 hhn (by rw [g3 1 (by decide)]; exact e3) (by rw [g3 2 (by decide)]; exact e4) (fun i hi' => by
    rw [Nat.add_assoc, g4 _ (by omega), g4 _ (by omega)]
    exact hp i hi')
  refine ⟨_, N2, D, ?_, by rw [g3 0 (by decide)]; exact e2, d1, d2⟩
  show bdp T q2 3 0 (gg T q2 (.inr (p, 0, fun _ => 0))) = _
  rw [e1]
  show egs T q2 (N (0 + 2) - nI 1) (.inr (q, 3, N)) (N (0 + 1)).toNatClampNeg = _
  rw [e3, e4, i_cl (by omega), i_sub (by omega), Nat.add_sub_cancel]
  exact g1
theorem bdp4 {T : Nat → Nat} {e p f : Nat} {N : Nat → Int32} : bdp T e 4 0 (.inr (p, f, N)) = ssi T e (N (0 + 1)).toNatClampNeg (N (0 + 2)).toNatClampNeg f (.inr (p, f, N)) 100 := by
  unfold bdp
  dsimp only
  rw [if_neg (by decide), if_neg (by decide), if_pos rfl]
theorem p_tol {A : SV} {T : Nat → Nat} {s n hi e p m : Nat} {vs : List Int32} (hs : s < 4) (hn : 2 ≤ n) (hn8 : n ≤ 8) (hh : 1 ≤ hi) (hhn : hi < n) (hm : 1 ≤ m) (hm12 : m ≤ 12) (hl : vs.length = 2 * m) (hv : ∀ i, i < m → (∃ x, x < 2 ^ n ∧ pc x = hi ∧ vs.getD (2 * i) 0 = nI x) ∧ sml (vs.getD (2 * i + 1) 0)) (hd : ∀ i j, i < j → j < m → ¬ vs.getD (2 * i) 0 = vs.getD (2 * j) 0) (h : TXT T e p (nI s :: nI n :: nI hi :: vs)) : ∃ f N D, bdp T e 4 0 (hdp T e 4 (.inr (p, 0, fun _ => 0))) = .inr (e, f, N) ∧ N 0 = nI s ∧ DRk A 4 N f n hi D ∧ okd D := by
  have h8 := p2_le hn8
  obtain ⟨q, N, e1, e2, e3, e4, e5⟩ := rr_ok (N := fun _ => 0) h hs hn hn8 hh hhn
  obtain ⟨q2, N2, g1, g2, g3, g4⟩ := ssi_ok (f := 3) (N := N) (n0 := n) (r := hi) e5 hl hn8 (fun i hi' => ⟨(hv i hi').1, (sml_b (hv i hi').2).2.2.2.2⟩) hd m (Nat.le_refl _)
  rw [← hl, drop_all] at g2
  have e6 := tx_end g2
  subst e6
  obtain ⟨D, d1, d2⟩ := can_tol (A := A) (c := N2) (q := m) hn hn8 hh hhn (by rw [g3 1 (by decide)]; exact e3) (by rw [g3 2 (by decide)]; exact e4) hm (fun i hi' => by
    obtain ⟨⟨x, x1, x2, x3⟩, x4⟩ := hv i hi'
    rw [Nat.add_assoc, g4 _ (by omega), g4 _ (by omega), x3, i_cl (by omega)]
    exact ⟨by omega, (sml_b x4).2.2.2.2⟩)
  refine ⟨_, N2, D, ?_, by rw [g3 0 (by decide)]; exact e2, d1, d2⟩
  show bdp T q2 4 0 (rr T q2 (.inr (p, 0, fun _ => 0))) = _
  rw [e1, bdp4, e3, e4, i_cl (by omega), i_cl (by omega)]
  have hg : ¬ gos T q2 (ssi T q2 n hi 3 (.inr (q, 3, N)) m) = true := by
    rw [g1]
    intro h9
    have h9 : isA T q2 q2 32 = true := h9
    rw [isA_i] at h9
    omega
  have h100 := ssi_e hm hg (100 - m)
  rw [show m + (100 - m) = 100 by omega] at h100
  rw [h100]
  exact g1
