/-! Potentials: what is asked of two shelves; the class's rounds. -/
def csq (V W : Nat → Int32) (n c m : Nat) : List cst3 := if m / 8 < n ∧ m % 8 < n ∧ c.testBit (m / 8) = true ∧ c.testBit (m % 8) = false then (if V (c ^^^ (2 ^ (m / 8) ||| 2 ^ (m % 8))) ≠ NO then [(m % 8, m / 8, V c - V (c ^^^ (2 ^ (m / 8) ||| 2 ^ (m % 8))))] else []) ++ (if W (c ^^^ (2 ^ (m / 8) ||| 2 ^ (m % 8))) ≠ NO then [(m / 8, m % 8, W c - W (c ^^^ (2 ^ (m / 8) ||| 2 ^ (m % 8))))] else []) else []
def LL (V W : Nat → Int32) (n c : Nat) : Nat → List cst3
  | 0 => []
  | m + 1 => LL V W n c m ++ csq V W n c m
theorem csq_at {V W : Nat → Int32} {n c i j : Nat} (hj : j < 8) : csq V W n c (8 * i + j) = if i < n ∧ j < n ∧ c.testBit i = true ∧ c.testBit j = false then (if V (c ^^^ (2 ^ i ||| 2 ^ j)) ≠ NO then [(j, i, V c - V (c ^^^ (2 ^ i ||| 2 ^ j)))] else []) ++ (if W (c ^^^ (2 ^ i ||| 2 ^ j)) ≠ NO then [(i, j, W c - W (c ^^^ (2 ^ i ||| 2 ^ j)))] else []) else [] := by
  unfold csq
  rw [show (8 * i + j) / 8 = i by omega, show (8 * i + j) % 8 = j by omega]
theorem LL_gap {V W : Nat → Int32} {n c : Nat} : ∀ (d a : Nat), (∀ m, a ≤ m → m < a + d → csq V W n c m = []) → LL V W n c (a + d) = LL V W n c a
  | 0, a, _ => rfl
  | d + 1, a, h => by
    show LL V W n c (a + d) ++ csq V W n c (a + d) = _
    rw [h (a + d) (by omega) (by omega), List.append_nil]
    exact LL_gap d a (fun m h1 h2 => h m h1 (by omega))
theorem LL_row {V W : Nat → Int32} {n c i : Nat} (hn : n ≤ 8) : LL V W n c (8 * (i + 1)) = LL V W n c (8 * i + n) := by
  have h := LL_gap (V := V) (W := W) (n := n) (c := c) (8 - n) (8 * i + n) (fun m h1 h2 => by
    unfold csq
    rw [if_neg (fun h9 => by have := h9.2.1; omega)])
  rw [show 8 * i + n + (8 - n) = 8 * (i + 1) by omega] at h
  exact h
theorem LL_end {V W : Nat → Int32} {n c : Nat} (hn : n ≤ 8) : LL V W n c 64 = LL V W n c (8 * n) := by
  have h := LL_gap (V := V) (W := W) (n := n) (c := c) (64 - 8 * n) (8 * n) (fun m h1 h2 => by
    unfold csq
    rw [if_neg (fun h9 => by have := h9.1; omega)])
  rw [show 8 * n + (64 - 8 * n) = 64 by omega] at h
  exact h
theorem csq_len {V W : Nat → Int32} {n c m : Nat} : (csq V W n c m).length ≤ 2 := by
  unfold csq
  split
  · rw [List.length_append]
    split <;> split <;> simp
  · decide
theorem LL_len {V W : Nat → Int32} {n c : Nat} : ∀ N, N ≤ 64 → (LL V W n c N).length ≤ 2 * (N - (N + 8) / 9)
  | 0, _ => Nat.le_refl _
  | N + 1, h => by
    have ih := LL_len (V := V) (W := W) (n := n) (c := c) N (by omega)
    have h2 := csq_len (V := V) (W := W) (n := n) (c := c) (m := N)
    rw [LL, List.length_append]
    by_cases e : N / 8 = N % 8
    · have e2 : csq V W n c N = [] := by
        unfold csq
        rw [if_neg (fun h9 => by
          have h3 := h9.2.2.1
          rw [e, h9.2.2.2] at h3
          cases h3)]
      rw [e2, List.length_nil]
      omega
    · omega
theorem LL_mem {V W : Nat → Int32} {n c : Nat} {q : cst3} : ∀ N, q ∈ LL V W n c N → ∃ m, q ∈ csq V W n c m
  | 0, h => absurd h (List.not_mem_nil)
  | N + 1, h => by
    rcases List.mem_append.1 h with h | h
    · exact LL_mem N h
    · exact ⟨N, h⟩
theorem dif_b {a b : Int32} (h1 : -1000000 ≤ a) (h2 : a ≤ 1000000) (h3 : -1000000 ≤ b) (h4 : b ≤ 1000000) : -2000000 ≤ (a - b).toInt ∧ (a - b).toInt ≤ 2000000 := by
  rw [Int32.le_iff_toInt_le] at h1 h2 h3 h4
  rw [show (-1000000 : Int32).toInt = -1000000 from by decide] at h1 h3
  rw [show (1000000 : Int32).toInt = 1000000 from by decide] at h2 h4
  rw [Int32.toInt_sub]
  unfold Int.bmod
  dsimp only
  constructor
  · split <;> omega
  · split <;> omega
theorem LL_ok {V W : Nat → Int32} {n r n2 r2 c : Nat} (hW : WF n r V) (hW2 : WF n2 r2 W) (hc : c ∈ BL V) (hc2 : c ∈ BL W) : wbd (LL V W n c 64) ∧ (LL V W n c 64).length ≤ 112 ∧ ∀ q, q ∈ LL V W n c 64 → q.1 < n ∧ q.2.1 < n := by
  have hcb := BL_mem.1 hc
  have hn := hW.2.1
  obtain ⟨-, -, v1, v2⟩ := hW.2.2.2.2.1 c hcb.1 hcb.2
  obtain ⟨-, -, w1, w2⟩ := hW2.2.2.2.2.1 c hcb.1 (BL_mem.1 hc2).2
  have key : ∀ q, q ∈ LL V W n c 64 → (-2000000 ≤ q.2.2.toInt ∧ q.2.2.toInt ≤ 2000000) ∧ q.1 < n ∧ q.2.1 < n := fun q hq => by
    obtain ⟨m, hm⟩ := LL_mem 64 hq
    unfold csq at hm
    by_cases g : m / 8 < n ∧ m % 8 < n ∧ c.testBit (m / 8) = true ∧ c.testBit (m % 8) = false
    · rw [if_pos g] at hm
      have hx : c ^^^ (2 ^ (m / 8) ||| 2 ^ (m % 8)) < 256 := bit_xor_lt hcb.1 (bit_or_lt (p2_lt (by omega)) (p2_lt (by omega)))
      rcases List.mem_append.1 hm with hm | hm
      · by_cases g2 : V (c ^^^ (2 ^ (m / 8) ||| 2 ^ (m % 8))) ≠ NO
        · rw [if_pos g2] at hm
          rw [List.mem_singleton.1 hm]
          obtain ⟨-, -, a1, a2⟩ := hW.2.2.2.2.1 _ hx g2
          exact ⟨dif_b v1 v2 a1 a2, g.2.1, g.1⟩
        · rw [if_neg g2] at hm
          exact absurd hm (List.not_mem_nil)
      · by_cases g2 : W (c ^^^ (2 ^ (m / 8) ||| 2 ^ (m % 8))) ≠ NO
        · rw [if_pos g2] at hm
          rw [List.mem_singleton.1 hm]
          obtain ⟨-, -, a1, a2⟩ := hW2.2.2.2.2.1 _ hx g2
          exact ⟨dif_b w1 w2 a1 a2, g.1, g.2.1⟩
        · rw [if_neg g2] at hm
          exact absurd hm (List.not_mem_nil)
    · rw [if_neg g] at hm
      exact absurd hm (List.not_mem_nil)
  exact ⟨fun q hq => (key q hq).1, LL_len 64 (Nat.le_refl _), fun q hq => (key q hq).2⟩
/-- a cell that tells eight numbers -/
def PE (J : ai_I) (c : Nat) (p : Nat → Int32) : Prop := ∀ e, e < 8 → J c e = p e
theorem or01 {f g : Nat} (hf : f ≤ 1) (hg : g ≤ 1) : f ||| g ≤ 1 ∧ (g = 1 → f ||| g = 1) ∧ (g = 0 → f ||| g = f) := by
  have hf2 : f = 0 ∨ f = 1 := by omega
  have hg2 : g = 0 ∨ g = 1 := by omega
  rcases hf2 with rfl | rfl <;> rcases hg2 with rfl | rfl <;> decide
theorem c_29 {J : ai_I} {t L v n r c x e d f : Nat} {V p : Nat → Int32} (hv : v ∈ VC) (hW : WF n r V) (h : CS J v n r V) (hc : J 61 1 = nI c) (hc2 : c < 256) (hx : x < 256) (he : e < 8) (hd : d < 8) (hp : PE J 62 p) (hf : f ≤ 1) : wp (m_29 61 (nI e) (nI d) v (nI x) J (Rc t) (Gc L)) (fun q => ∃ g s, g ≤ 1 ∧ q.1 = nI g ∧ s = rfs (if V x ≠ NO then [(e, d, V c - V x)] else []) (f, p) ∧ f ||| g = s.1 ∧ PE q.2 62 s.2 ∧ ot J q.2 62) := by
  unfold m_29
  rw [v_kd hv, o_g_t, c_122 hv hW h hx, o_b1_s, q_bz]
  by_cases c1 : V x ≠ NO
  · rw [if_pos c1, if_pos c1, hc, v_rv hv, r_61_3, g_62 hd, v_gv hv hc2, v_gv hv hx, g_62 he, o_g_t, o_g_t, o_g_t, o_b1_s, o_g_t, o_g_t, i_cl (by omega), i_cl (by omega), i_cl (by omega), i_cl (by omega), h.2.2.2.1 c hc2, h.2.2.2.1 x hx, hp d hd, hp e he, Int32.sub_eq_add_neg, Int32.add_assoc, ← Int32.sub_eq_add_neg]
    have er : rfs [(e, d, V c - V x)] (f, p) = if p d + (V c - V x) < p e then (1, va_up p e (p d + (V c - V x))) else (f, p) := rfl
    by_cases c2 : p d + (V c - V x) < p e
    · rw [if_pos c2, o_b1_s, wp_s]
      rw [if_pos c2] at er
      refine ⟨1, _, Nat.le_refl _, rfl, rfl, ?_, ?_, fun q hq => up_ne hq⟩
      · rw [er]
        exact (or01 hf (Nat.le_refl 1)).2.1 rfl
      · rw [er]
        intro j hj
        show va_up J 62 (va_up (J 62) e (p d + (V c - V x))) 62 j = va_up p e (p d + (V c - V x)) j
        rw [up_eq]
        by_cases e1 : j = e
        · rw [e1, up_eq, up_eq]
        · rw [up_ne e1, up_ne e1]
          exact hp j hj
    · rw [if_neg c2, wp_s]
      rw [if_neg c2] at er
      refine ⟨0, _, Nat.zero_le _, rfl, rfl, ?_, ?_, fun _ _ => rfl⟩
      · rw [er]
        exact (or01 hf (Nat.zero_le 1)).2.2 rfl
      · rw [er]
        exact hp
  · rw [if_neg c1, if_neg c1, wp_s]
    exact ⟨0, _, Nat.zero_le _, rfl, rfl, (or01 hf (Nat.zero_le 1)).2.2 rfl, hp, fun _ _ => rfl⟩
theorem bz_01 {f : Nat} (h : f ≤ 1) : o_bz (nI f) = true := by
  have h2 : f = 0 ∨ f = 1 := by omega
  rcases h2 with rfl | rfl <;> decide
theorem c_28 {I : ai_I} {t L v w n r c : Nat} {V W p : Nat → Int32} (hv : v ∈ VC) (hw : w ∈ VC) (hW : WF n r V) (hW2 : WF n r W) (h : CS I v n r V) (h2 : CS I w n r W) (hc : I 61 1 = nI c) (hc2 : c < 256) (hp : PE I 62 p) : wp (m_28 61 v w I (Rc t) (Gc L)) (fun q => q.1 = nI (rfs (LL V W n c 64) (0, p)).1 ∧ PE q.2 62 (rfs (LL V W n c 64) (0, p)).2 ∧ ot I q.2 62) := by
  have hn := hW.2.1
  have hvv := vc_51 v hv
  have hww := vc_51 w hw
  unfold m_28
  refine wp_s1 (wp_lp (fun i s => ∃ J, s = (nI (rfs (LL V W n c (8 * i)) (0, p)).1, nI i, J) ∧ PE J 62 (rfs (LL V W n c (8 * i)) (0, p)).2 ∧ ot I J 62) 0 n (Nat.zero_le _) (by omega) ⟨I, rfl, hp, fun _ _ => rfl⟩ ?_ ?_)
  · rintro i _ hi ⟨J, rfl, hP, hJ⟩
    have hC : CS J v n r V := CS_cong (fun _ _ => rfl) (hJ _ (by omega)) (hJ _ (by omega)) (hJ _ (by omega)) (hJ _ (by omega)) h
    simp (disch := omega) only [if_pos, if_neg, o_b1_s, o_b2_s, o_b3_s, o_b4_s, o_s1_s, o_s2_l, o_s2_r, o_g_t, i_add, i_mul, i_sub, i_and, i_or, i_xor, i_sd, i_shl, Nat.one_mul, i_eq, i_lt, i_le, i_n0, i_0le, i_e0, i_0lt, i_le0, i_cl, bz_0, wp_s, lq_l, lq_r, if_true, if_false, ite_not, true_and, and_true, m_28_b5, v_kd hv, hC.1]
    refine wp_s1 (wp_lp (fun j s => ∃ J, s = (nI (rfs (LL V W n c (8 * i + j)) (0, p)).1, nI j, J) ∧ PE J 62 (rfs (LL V W n c (8 * i + j)) (0, p)).2 ∧ ot I J 62) 0 n (Nat.zero_le _) (by omega) ⟨J, rfl, hP, hJ⟩ ?_ ?_)
    · rintro j _ hj ⟨J, rfl, hP, hJ⟩
      have hC : CS J v n r V := CS_cong (fun _ _ => rfl) (hJ _ (by omega)) (hJ _ (by omega)) (hJ _ (by omega)) (hJ _ (by omega)) h
      have hc' : J 61 1 = nI c := by rw [hJ 61 (by decide)]; exact hc
      have hx : c ^^^ (2 ^ i ||| 2 ^ j) < 256 := bit_xor_lt hc2 (bit_or_lt (p2_lt (by omega)) (p2_lt (by omega)))
      have hf := rfs_01 (LL V W n c (8 * i + j)) (0, p) (Nat.zero_le _)
      have est : LL V W n c (8 * i + (j + 1)) = LL V W n c (8 * i + j) ++ csq V W n c (8 * i + j) := rfl
      rw [est, rfs_app, csq_at (show j < 8 by omega)]
      simp (disch := omega) only [if_pos, if_neg, o_b1_s, o_b2_s, o_b3_s, o_b4_s, o_s1_s, o_s2_l, o_s2_r, o_g_t, i_add, i_mul, i_sub, i_and, i_or, i_xor, i_sd, i_shl, Nat.one_mul, i_eq, i_lt, i_le, i_n0, i_0le, i_e0, i_0lt, i_le0, i_cl, bz_0, wp_s, lq_l, lq_r, if_true, if_false, ite_not, true_and, and_true, m_28_b17, hC.1, hc', c_183]
      by_cases c1 : c.testBit i = true
      · rw [if_pos c1]
        by_cases c2 : c.testBit j = true
        · rw [if_pos c2, if_neg (fun h9 => by rw [h9.2.2.2] at c2; cases c2)]
          simp (disch := omega) only [o_b1_s, o_b2_s, o_b3_s, o_b4_s, o_s1_s, o_s2_l, o_s2_r, o_g_t, i_add, i_mul, i_sub, i_and, i_or, i_xor, i_sd, i_shl, Nat.one_mul, i_eq, i_lt, i_le, i_n0, i_0le, i_e0, i_0lt, i_le0, i_cl, bz_0, wp_s, lq_l, lq_r, if_true, if_false, ite_not, true_and, and_true]
          exact ⟨J, rfl, hP, hJ⟩
        · rw [if_neg c2, if_pos ⟨hi, hj, c1, not_tb c2⟩, rfs_app]
          refine wp_b2 (wp_mono (c_29 (t := t) (L := L) (f := (rfs (LL V W n c (8 * i + j)) (0, p)).1) hv hW hC hc' hc2 hx (show j < 8 by omega) (show i < 8 by omega) hP hf) ?_)
          rintro ⟨y, K⟩ ⟨g, s, g1, g2, g3, g4, g5, g6⟩
          dsimp only at g2 g5 g6
          have fr : ot I K 62 := fun q hq => (g6 q hq).trans (hJ q hq)
          have hCK : CS K w n r W := CS_cong (fun _ _ => rfl) (fr _ (by omega)) (fr _ (by omega)) (fr _ (by omega)) (fr _ (by omega)) h2
          have hcK : K 61 1 = nI c := by rw [fr 61 (by decide)]; exact hc
          have hs1 : s.1 ≤ 1 := by rw [← g4]; exact (or01 hf g1).1
          rw [g2]
          simp (disch := omega) only [o_b1_s, o_b2_s, o_b3_s, o_b4_s, o_s1_s, o_s2_l, o_s2_r, o_g_t, i_add, i_mul, i_sub, i_and, i_or, i_xor, i_sd, i_shl, Nat.one_mul, i_eq, i_lt, i_le, i_n0, i_0le, i_e0, i_0lt, i_le0, i_cl, bz_0, wp_s, lq_l, lq_r, if_true, if_false, ite_not, true_and, and_true, g4, hcK]
          refine wp_b2 (wp_mono (c_29 (t := t) (L := L) (f := s.1) hw hW2 hCK hcK hc2 hx (show i < 8 by omega) (show j < 8 by omega) g5 hs1) ?_)
          rintro ⟨y2, M⟩ ⟨g', s', k1, k2, k3, k4, k5, k6⟩
          dsimp only at k2 k5 k6
          have e3 : (rfs (LL V W n c (8 * i + j)) (0, p)) = ((rfs (LL V W n c (8 * i + j)) (0, p)).1, (rfs (LL V W n c (8 * i + j)) (0, p)).2) := rfl
          rw [← e3] at g3
          have e4 : s = (s.1, s.2) := rfl
          rw [← e4, g3] at k3
          rw [k2]
          simp only [ne_eq, ite_not] at k3
          simp (disch := omega) only [o_b1_s, o_b2_s, o_b3_s, o_b4_s, o_s1_s, o_s2_l, o_s2_r, o_g_t, i_add, i_mul, i_sub, i_and, i_or, i_xor, i_sd, i_shl, Nat.one_mul, i_eq, i_lt, i_le, i_n0, i_0le, i_e0, i_0lt, i_le0, i_cl, bz_0, wp_s, lq_l, lq_r, if_true, if_false, ite_not, true_and, and_true, k4]
          rw [← k3]
          exact ⟨M, rfl, k5, fun q hq => (k6 q hq).trans (fr q hq)⟩
      · rw [if_neg c1, if_neg (fun h9 => c1 h9.2.2.1)]
        simp (disch := omega) only [o_b1_s, o_b2_s, o_b3_s, o_b4_s, o_s1_s, o_s2_l, o_s2_r, o_g_t, i_add, i_mul, i_sub, i_and, i_or, i_xor, i_sd, i_shl, Nat.one_mul, i_eq, i_lt, i_le, i_n0, i_0le, i_e0, i_0lt, i_le0, i_cl, bz_0, wp_s, lq_l, lq_r, if_true, if_false, ite_not, true_and, and_true]
        exact ⟨J, rfl, hP, hJ⟩
    · rintro _ ⟨J, rfl, hP, hJ⟩
      have hC : CS J v n r V := CS_cong (fun _ _ => rfl) (hJ _ (by omega)) (hJ _ (by omega)) (hJ _ (by omega)) (hJ _ (by omega)) h
      simp (disch := omega) only [if_pos, if_neg, o_b1_s, o_b2_s, o_b3_s, o_b4_s, o_s1_s, o_s2_l, o_s2_r, o_g_t, i_add, i_mul, i_sub, i_and, i_or, i_xor, i_sd, i_shl, Nat.one_mul, i_eq, i_lt, i_le, i_n0, i_0le, i_e0, i_0lt, i_le0, i_cl, bz_0, wp_s, lq_l, lq_r, if_true, if_false, ite_not, true_and, and_true, m_28_b17, hC.1, m_28_x17_108]
      rw [LL_row hn]
      exact ⟨J, rfl, hP, hJ⟩
  · rintro _ ⟨J, rfl, hP, hJ⟩
    have hC : CS J v n r V := CS_cong (fun _ _ => rfl) (hJ _ (by omega)) (hJ _ (by omega)) (hJ _ (by omega)) (hJ _ (by omega)) h
    simp (disch := omega) only [if_pos, if_neg, o_b1_s, o_b2_s, o_b3_s, o_b4_s, o_s1_s, o_s2_l, o_s2_r, o_g_t, i_add, i_mul, i_sub, i_and, i_or, i_xor, i_sd, i_shl, Nat.one_mul, i_eq, i_lt, i_le, i_n0, i_0le, i_e0, i_0lt, i_le0, i_cl, bz_0, wp_s, lq_l, lq_r, if_true, if_false, ite_not, true_and, and_true, m_28_b5, v_kd hv, hC.1, m_28_x5_114]
    rw [bz_01 (rfs_01 _ _ (Nat.zero_le _)), o_g_t, wp_s, LL_end hn]
    exact ⟨rfl, hP, hJ⟩
theorem c_27 {I : ai_I} {t L v w n r c m : Nat} {V W : Nat → Int32} (hv : v ∈ VC) (hw : w ∈ VC) (hW : WF n r V) (hW2 : WF n r W) (h : CS I v n r V) (h2 : CS I w n r W) (hc : I 61 1 = nI c) (hc2 : c < 256) (hm : I 61 0 = nI m) (hm2 : m < 1000) (hm0 : ¬ m = 0) : wp (m_27 61 v w I (Rc t) (Gc L)) (fun q => ot I q.2 62 ∧ ((q.1 = nI 1 ∧ ∃ k, k ≤ n ∧ Fk (LL V W n c 64) k = 0 ∧ (∀ i, i < k → ¬ Fk (LL V W n c 64) i = 0) ∧ PE q.2 62 (Pk (LL V W n c 64) k)) ∨ (q.1 = nI 0 ∧ ∀ i, i ≤ n → ¬ Fk (LL V W n c 64) i = 0))) := by
  have hn := hW.2.1
  have hvv := vc_51 v hv
  have hww := vc_51 w hw
  obtain ⟨J, j1, j2, j3⟩ := c_332 (I := I) (L := L) (a := 62) (n := 8) (x := nI 0) rfl rfl (by decide)
  unfold m_27
  rw [hm, q_e0 (by omega), if_neg hm0, r_61_3, j1, o_b1_s]
  refine wp_s2 (wp_lp (fun k s => ∃ J, s = (nI k, J) ∧ ot I J 62 ∧ PE J 62 (Pk (LL V W n c 64) k) ∧ ∀ i, i < k → ¬ Fk (LL V W n c 64) i = 0) 0 (n + 1) (Nat.zero_le _) (by omega) ⟨J, rfl, j2, fun e he => j3 e he, fun i hi => absurd hi (Nat.not_lt_zero _)⟩ ?_ ?_)
  · rintro k _ hk ⟨J, rfl, hJ, hP, hF⟩
    have hC : CS J v n r V := CS_cong (fun _ _ => rfl) (hJ _ (by omega)) (hJ _ (by omega)) (hJ _ (by omega)) (hJ _ (by omega)) h
    have hC2 : CS J w n r W := CS_cong (fun _ _ => rfl) (hJ _ (by omega)) (hJ _ (by omega)) (hJ _ (by omega)) (hJ _ (by omega)) h2
    have hcJ : J 61 1 = nI c := by rw [hJ 61 (by decide)]; exact hc
    have hf1 := Fk_01 (LL V W n c 64) k
    simp (disch := omega) only [if_pos, if_neg, o_b1_s, o_b2_s, o_b3_s, o_b4_s, o_s1_s, o_s2_l, o_s2_r, o_g_t, i_add, i_mul, i_sub, i_and, i_or, i_xor, i_sd, i_shl, Nat.one_mul, i_eq, i_lt, i_le, i_n0, i_0le, i_e0, i_0lt, i_le0, i_cl, bz_0, wp_s, lq_l, lq_r, if_true, if_false, ite_not, true_and, and_true, m_27_b19, v_kd hv, hC.1]
    refine wp_b2 (wp_mono (c_28 (t := t) (L := L) hv hw hW hW2 hC hC2 hcJ hc2 hP) ?_)
    rintro ⟨x, K⟩ ⟨k1, k2, k3⟩
    dsimp only at k1 k2 k3
    have fr : ot I K 62 := fun q hq => (k3 q hq).trans (hJ q hq)
    have k1' : x = nI (Fk (LL V W n c 64) k) := k1
    rw [k1']
    by_cases e : Fk (LL V W n c 64) k = 0
    · rw [e]
      simp (disch := omega) only [if_pos, if_neg, o_b1_s, o_b2_s, o_b3_s, o_b4_s, o_s1_s, o_s2_l, o_s2_r, o_g_t, i_add, i_mul, i_sub, i_and, i_or, i_xor, i_sd, i_shl, Nat.one_mul, i_eq, i_lt, i_le, i_n0, i_0le, i_e0, i_0lt, i_le0, i_cl, bz_0, wp_s, lq_l, lq_r, if_true, if_false, ite_not, true_and, and_true, m_27_x19_36]
      have e2 := (Fk_0 e).1
      have k2' : PE K 62 (Pk (LL V W n c 64) (k + 1)) := k2
      rw [e2] at k2'
      exact ⟨fr, Or.inl ⟨k, by omega, e, hF, k2'⟩⟩
    · rw [show Fk (LL V W n c 64) k = 1 by omega]
      simp (disch := omega) only [if_pos, if_neg, o_b1_s, o_b2_s, o_b3_s, o_b4_s, o_s1_s, o_s2_l, o_s2_r, o_g_t, i_add, i_mul, i_sub, i_and, i_or, i_xor, i_sd, i_shl, Nat.one_mul, i_eq, i_lt, i_le, i_n0, i_0le, i_e0, i_0lt, i_le0, i_cl, bz_0, wp_s, lq_l, lq_r, if_true, if_false, ite_not, true_and, and_true]
      refine ⟨K, rfl, fr, k2, fun i hi => ?_⟩
      by_cases e2 : i = k
      · rw [e2]
        exact e
      · exact hF i (by omega)
  · rintro _ ⟨J, rfl, hJ, hP, hF⟩
    have hC : CS J v n r V := CS_cong (fun _ _ => rfl) (hJ _ (by omega)) (hJ _ (by omega)) (hJ _ (by omega)) (hJ _ (by omega)) h
    simp (disch := omega) only [if_pos, if_neg, o_b1_s, o_b2_s, o_b3_s, o_b4_s, o_s1_s, o_s2_l, o_s2_r, o_g_t, i_add, i_mul, i_sub, i_and, i_or, i_xor, i_sd, i_shl, Nat.one_mul, i_eq, i_lt, i_le, i_n0, i_0le, i_e0, i_0lt, i_le0, i_cl, bz_0, wp_s, lq_l, lq_r, if_true, if_false, ite_not, true_and, and_true, m_27_b19, v_kd hv, hC.1, m_27_x19_44]
    exact ⟨hJ, Or.inr (fun i hi => hF i (by omega))⟩
