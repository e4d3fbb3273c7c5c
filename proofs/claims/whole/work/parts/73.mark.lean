/-! Rows of the class: marks, what is used, what suits. -/
def sqv (x : Int32) : Int64 := ((1000001 : Int64) + x.toInt64) * ((1000001 : Int64) + x.toInt64)
def mkl (V : Nat → Int32) (e k : Nat) : List Nat := (List.range k).filter (fun b => decide (V b ≠ NO ∧ b.testBit e = true))
def mk (V : Nat → Int32) (e k : Nat) : Int64 := (mkl V e k).foldl (fun s b => s + sqv (V b)) 0
theorem mk_f {V : Nat → Int32} {e k : Nat} (h : ¬ (V k ≠ NO ∧ k.testBit e = true)) : mk V e (k + 1) = mk V e k := by
  unfold mk mkl
  rw [List.range_succ, List.filter_append, List.filter_cons, if_neg (by rw [decide_eq_false h]; decide), List.filter_nil, List.append_nil]
theorem mk_t {V : Nat → Int32} {e k : Nat} (h : V k ≠ NO ∧ k.testBit e = true) : mk V e (k + 1) = mk V e k + sqv (V k) := by
  unfold mk mkl
  rw [List.range_succ, List.filter_append, List.filter_cons, if_pos (decide_eq_true h), List.filter_nil, List.foldl_append]
  rfl
theorem c_60 {I : ai_I} {t L v n r e : Nat} {V : Nat → Int32} (hv : v ∈ VC) (hW : WF n r V) (h : CS I v n r V) (he : e < 9) : m_60 v (nI e) I (Rc t) (Gc L) = some (mk V e 256) := by
  have hl := BL_len hW
  have hw : wp (m_60 v (nI e) I (Rc t) (Gc L)) (fun q => q = mk V e 256) := by
    unfold m_60
    refine wp_s1 (wp_lpB V (fun p (x : Int64) => (x, nI p)) (fun k x => x = mk V e k) (x0 := 0) hl rfl ?_ ?_ ?_)
    · rintro k x hk hV rfl
      exact (mk_f (fun h => h.1 hV)).symm
    · rintro p x hp rfl
      have hb := BL_at hp
      unfold m_60_b5
      dsimp only
      rw [v_kd hv, o_g_t, h.2.2.1, if_neg (nI_ge hp (by omega)), v_rb hv, v_gb hv (by omega), o_g_t, i_cl (by omega), h.2.2.2.2.2 p hp, c_183 hb.1 he, o_b1_s, q_bz]
      by_cases c : ((BL V).getD p 0).testBit e = true
      · rw [if_pos c, v_rv hv, o_g_t, v_gv hv hb.1, o_g_t, i_cl (by omega), h.2.2.2.1 _ hb.1, o_b1_s, o_b1_s, i_add, o_b1_s, wp_s, lq_l]
        exact ⟨_, rfl, (mk_t ⟨hb.2, c⟩).symm⟩
      · rw [if_neg c, i_add, o_b1_s, wp_s, lq_l]
        exact ⟨_, rfl, (mk_f (fun h => c h.2)).symm⟩
    · rintro x rfl
      unfold m_60_b5
      dsimp only
      rw [v_kd hv, o_g_t, h.2.2.1, if_pos (nI_le (Nat.le_refl _) (by omega)), wp_s, lq_r]
      exact ⟨_, rfl, rfl⟩
  obtain ⟨q, q1, rfl⟩ := hw
  exact q1
theorem mkl_mem {V : Nat → Int32} {e k b : Nat} : b ∈ mkl V e k ↔ b < k ∧ V b ≠ NO ∧ b.testBit e = true := by
  unfold mkl
  rw [List.mem_filter, List.mem_range, decide_eq_true_iff]
theorem mkl_nd {V : Nat → Int32} {e k : Nat} : (mkl V e k).Nodup := List.Pairwise.filter _ nd_range
theorem nd_map {φ : Nat → Nat} {l : List Nat} (h : l.Nodup) (hi : ∀ x y, x ∈ l → y ∈ l → φ x = φ y → x = y) : (l.map φ).Nodup := by
  unfold List.Nodup
  rw [List.pairwise_map]
  exact List.Pairwise.imp_of_mem (fun {a b} ha hb hab e => hab (hi a b ha hb e)) h
theorem fold_g {g g2 : Nat → Int64} : ∀ (l : List Nat) (s : Int64), (∀ x, x ∈ l → g x = g2 x) → l.foldl (fun s b => s + g b) s = l.foldl (fun s b => s + g2 b) s
  | [], _, _ => rfl
  | x :: l, s, h => by
    rw [List.foldl_cons, List.foldl_cons, h x List.mem_cons_self]
    exact fold_g l _ (fun y hy => h y (List.mem_cons_of_mem _ hy))
theorem fold_perm {g g2 : Nat → Int64} {φ : Nat → Nat} (l l' : List Nat) (hp : (l.map φ).Perm l') (h : ∀ x, x ∈ l → g x = g2 (φ x)) : l.foldl (fun s b => s + g b) 0 = l'.foldl (fun s b => s + g2 b) 0 := by
  rw [← List.Perm.foldl_eq' hp (fun x _ y _ z => by rw [Int64.add_assoc, Int64.add_assoc, Int64.add_comm (g2 x)]), List.foldl_map]
  exact fold_g l 0 h
theorem mk_eq {n r e : Nat} {V W : Nat → Int32} {σ : Nat → Nat} (hV : WF n r V) (hW : WF n r W) (hσ : Sol n V W σ) (he : e < n) : mk V e 256 = mk W (σ e) 256 := by
  have hn := hV.2.1
  have h8 := p2_le hn
  obtain ⟨τ, t1, t2, t3⟩ := PM_inv hσ.1
  have hp : ((mkl V e 256).map (fun b => im σ b 8)).Perm (mkl W (σ e) 256) := by
    refine (List.perm_ext_iff_of_nodup (nd_map mkl_nd (fun x y hx hy h => im_inj hσ.1.2.1 (mkl_mem.1 hx).1 (mkl_mem.1 hy).1 h)) mkl_nd).2 (fun y => ?_)
    rw [List.mem_map, mkl_mem]
    constructor
    · rintro ⟨x, h1, rfl⟩
      obtain ⟨x1, x2, x3⟩ := mkl_mem.1 h1
      have xn := (hV.2.2.2.2.1 x x1 x2).1
      have yn := PM_im hσ.1 hn xn
      exact ⟨by omega, by rw [← hσ.2 x xn]; exact x2, (im_tb 8).2 ⟨e, by omega, x3, rfl⟩⟩
    · rintro ⟨y1, y2, y3⟩
      have yn := (hW.2.2.2.2.1 y y1 y2).1
      have xn := PM_im t1 hn yn
      have e1 : im σ (im τ y 8) 8 = y := by
        rw [im_comp t1.1]
        exact im_id (fun i hi => t3 i hi) y1
      refine ⟨im τ y 8, mkl_mem.2 ⟨by omega, ?_, ?_⟩, e1⟩
      · rw [hσ.2 _ xn, e1]
        exact y2
      · exact (im_tb 8).2 ⟨σ e, hσ.1.1 e (by omega), y3, t2 e (by omega)⟩
  exact fold_perm _ _ hp (fun x hx => by rw [hσ.2 x (hV.2.2.2.2.1 x (mkl_mem.1 hx).1 (mkl_mem.1 hx).2.1).1])
def okk (V W : Nat → Int32) (σ : Nat → Nat) (a : Nat) : Prop := mk V a 256 = mk W (σ a) 256 ∧ ∀ b, b < 2 ^ a → V (b ||| 2 ^ a) = W (im σ (b ||| 2 ^ a) (a + 1))
def RWr (I : ai_I) (σ : Nat → Nat) (a : Nat) : Prop := ∀ i, i < a → I 69 i = nI (σ i)
def IMg (I : ai_I) (σ : Nat → Nat) (a : Nat) : Prop := ∀ S, 0 < S → S < 2 ^ a → I 70 S = nI (im σ S a)
def IMf (I : ai_I) (σ : Nat → Nat) (a : Nat) : Prop := ∀ S, S < 2 ^ a → I 70 S = nI (im σ S a)
theorem or_ad {a b : Nat} (h : b < 2 ^ a) : b ||| 2 ^ a = b + 2 ^ a := by
  have h2 := Nat.two_pow_add_eq_or_of_lt h 1
  rw [Nat.mul_one] at h2
  rw [Nat.or_comm, ← h2, Nat.add_comm]
theorem okk_cong {V W : Nat → Int32} {σ τ : Nat → Nat} {a : Nat} (h : ∀ i, i < a + 1 → σ i = τ i) (hk : okk V W σ a) : okk V W τ a := ⟨by rw [← h a (by omega)]; exact hk.1, fun b hb => by rw [← im_cong (a + 1) h]; exact hk.2 b hb⟩
theorem Sol_okk {n r a : Nat} {V W : Nat → Int32} {σ : Nat → Nat} (hV : WF n r V) (hW : WF n r W) (hσ : Sol n V W σ) (ha : a < n) : okk V W σ a := by
  refine ⟨mk_eq hV hW hσ ha, fun b hb => ?_⟩
  have hn := hV.2.1
  have h1 : 2 ^ (a + 1) ≤ 2 ^ n := Nat.pow_le_pow_right (by decide) (by omega)
  have h2 : 2 ^ (a + 1) = 2 ^ a * 2 := Nat.pow_succ ..
  have h3 : b ||| 2 ^ a < 2 ^ (a + 1) := by rw [or_ad hb]; omega
  rw [hσ.2 _ (by omega), im_8 h3 (by omega)]
def ext (n : Nat) (σ : Nat → Nat) (i : Nat) : Nat := if i < n then σ i else i
theorem okk_Sol {n r : Nat} {V W : Nat → Int32} {σ : Nat → Nat} (hV : WF n r V) (hW : WF n r W) (h1 : ∀ i, i < n → σ i < n) (h2 : ∀ i j, i < n → j < n → σ i = σ j → i = j) (h3 : ∀ i, i < n → okk V W σ i) : Sol n V W (ext n σ) := by
  have hn := hV.2.1
  have he : ∀ i, i < n → ext n σ i = σ i := fun i hi => if_pos hi
  have he2 : ∀ i, ¬ i < n → ext n σ i = i := fun i hi => if_neg hi
  refine ⟨⟨fun i hi => ?_, fun i j hi hj e => ?_, fun i h4 h5 => he2 i (by omega)⟩, ?_⟩
  · by_cases c : i < n
    · have := h1 i c
      rw [he i c]
      omega
    · rw [he2 i c]
      exact hi
  · by_cases c : i < n
    · have g1 := h1 i c
      rw [he i c] at e
      by_cases c2 : j < n
      · rw [he j c2] at e
        exact h2 i j c c2 e
      · rw [he2 j c2] at e
        omega
    · rw [he2 i c] at e
      by_cases c2 : j < n
      · have g1 := h1 j c2
        rw [he j c2] at e
        omega
      · rw [he2 j c2] at e
        exact e
  · have all : ∀ a, a ≤ n → ∀ S, S < 2 ^ a → V S = W (im σ S a) := by
      intro a
      induction a with
      | zero =>
        intro _ S hS
        obtain rfl : S = 0 := by
          have : 2 ^ 0 = 1 := rfl
          omega
        have no : ∀ {U : Nat → Int32}, WF n r U → U 0 = NO := fun {U} hU => Decidable.byContradiction (fun h => by
          have h5 := (hU.2.2.2.2.1 0 (by decide) h).2.1
          have h6 : pc 0 = 0 := by decide
          have h7 := hU.2.2.1
          omega)
        show V 0 = W 0
        rw [no hV, no hW]
      | succ a ih =>
        intro ha S hS
        have h4 : 2 ^ (a + 1) = 2 ^ a * 2 := Nat.pow_succ ..
        by_cases c : S < 2 ^ a
        · rw [ih (by omega) S c, im_up c 1]
        · have hb : S - 2 ^ a < 2 ^ a := by omega
          have h5 := (h3 a (by omega)).2 (S - 2 ^ a) hb
          rw [or_ad hb, show S - 2 ^ a + 2 ^ a = S by omega] at h5
          exact h5
    intro S hS
    rw [all n (Nat.le_refl _) S hS, im_8 hS hn, im_cong n (fun i hi => (he i hi).symm)]
/-- whether an element is used -/
theorem c_64 {I : ai_I} {t L a e : Nat} {σ : Nat → Nat} (ha : a ≤ 8) (he : e < 8) (hs : ∀ i, i < a → σ i < 8) (h : RWr I σ a) : wp (m_64 67 (nI a) (nI e) I (Rc t) (Gc L)) (yn (∃ k, k < a ∧ σ k = e)) := by
  simp (disch := omega) only [o_b1_s, o_b2_s, o_b3_s, o_b4_s, o_s1_s, o_s2_l, o_s2_r, o_g_t, i_add, i_mul, i_sub, i_and, i_or, i_xor, i_sd, i_shl, Nat.one_mul, i_eq, i_lt, i_le, i_n0, i_0le, i_e0, i_0lt, i_le0, i_cl, bz_0, wp_s, lq_l, lq_r, if_true, if_false, ite_not, true_and, and_true, m_64]
  refine wp_s2 (wp_lp (fun i s => s = nI i ∧ ∀ k, k < i → ¬ σ k = e) 0 a (Nat.zero_le _) (by omega) ⟨rfl, fun k hk => absurd hk (Nat.not_lt_zero _)⟩ ?_ ?_)
  · rintro i _ hi ⟨rfl, hP⟩
    have hsi := hs i hi
    unfold m_64_b2
    rw [if_neg (nI_ge hi (by omega)), r_67_1, g_69 (by omega), o_g_t, i_cl (by omega), h i hi, q_eq (by omega) (by omega)]
    by_cases c : σ i = e
    · rw [if_pos c, wp_s, lq_r, lq_l, m_64_x2_17, wp_s]
      exact Or.inl ⟨rfl, i, hi, c⟩
    · rw [if_neg c, i_add, o_b1_s, wp_s, lq_l]
      refine ⟨rfl, fun k hk => ?_⟩
      by_cases e2 : k = i
      · rw [e2]
        exact c
      · exact hP k (by omega)
  · rintro _ ⟨rfl, hP⟩
    unfold m_64_b2
    rw [if_pos (nI_le (Nat.le_refl _) (by omega)), wp_s, lq_r, lq_r, m_64_x2_25, wp_s]
    exact Or.inr ⟨rfl, fun ⟨k, h1, h2⟩ => hP k h1 h2⟩
theorem c_63 {I : ai_I} {t L a l n : Nat} {σ : Nat → Nat} (ha : a ≤ 8) (hn : n ≤ 8) (hl : l ≤ n) (hs : ∀ i, i < a → σ i < 8) (h : RWr I σ a) : wp (m_63 67 (nI a) (nI l) (nI n) I (Rc t) (Gc L)) (fun q => ∃ r, q = nI r ∧ l ≤ r ∧ r ≤ n ∧ (∀ e, l ≤ e → e < r → ∃ k, k < a ∧ σ k = e) ∧ (r < n → ¬ ∃ k, k < a ∧ σ k = r)) := by
  unfold m_63
  refine wp_s2 (wp_lp (fun i s => s = nI i ∧ l ≤ i ∧ ∀ e, l ≤ e → e < i → ∃ k, k < a ∧ σ k = e) l n hl (by omega) ⟨rfl, Nat.le_refl _, fun e h1 h2 => absurd h2 (by omega)⟩ ?_ ?_)
  · rintro i _ hi ⟨rfl, h0, hP⟩
    unfold m_63_b3
    rw [if_neg (nI_ge hi (by omega))]
    refine wp_b1 (wp_mono (c_64 (t := t) (L := L) (a := a) (e := i) ha (by omega) hs h) ?_)
    rintro y (⟨rfl, c⟩ | ⟨rfl, c⟩)
    · rw [q_10, i_add, o_b1_s, wp_s, lq_l]
      refine ⟨rfl, by omega, fun e h1 h2 => ?_⟩
      by_cases e2 : e = i
      · rw [e2]
        exact c
      · exact hP e h1 (by omega)
    · rw [q_00, wp_s, lq_r, lq_l, m_63_x3_19, wp_s]
      exact ⟨i, rfl, h0, by omega, hP, fun _ => c⟩
  · rintro _ ⟨rfl, h0, hP⟩
    unfold m_63_b3
    rw [if_pos (nI_le (Nat.le_refl _) (by omega)), wp_s, lq_r, lq_r, m_63_x3_28, wp_s]
    exact ⟨n, rfl, h0, Nat.le_refl _, hP, fun h => absurd h (Nat.lt_irrefl _)⟩
theorem c_65 {I : ai_I} {J : ai_J} {t L v w n r a : Nat} {V W : Nat → Int32} {σ : Nat → Nat} (hv : v ∈ VC) (hw : w ∈ VC) (hv43 : v < 40) (hw43 : w < 40) (hn : n ≤ 8) (h : CS I v n r V) (h2 : CS I w n r W) (ha : a < n) (hs : ∀ i, i < a + 1 → σ i < n) (hr : RWr I σ (a + 1)) (hg : IMg I σ a) (hJ : ∀ e, e < n → J 71 e = mk V e 256 ∧ J 72 e = mk W e 256) : wp (m_65 67 v w (nI a) I J (Rc t) (Gc L)) (fun q => ot I q.2 70 ∧ IMg q.2 σ a ∧ (q.1 = nI 1 ∧ okk V W σ a ∧ IMg q.2 σ (a + 1) ∨ q.1 = nI 0 ∧ ¬ okk V W σ a)) := by
  have hsa := hs a (by omega)
  have hra := hr a (by omega)
  have p1 : 2 ^ a ≤ 128 := (show 2 ^ a ≤ 2 ^ 7 from Nat.pow_le_pow_right (by decide) (by omega))
  have hor : ∀ b, b < 2 ^ a → b ||| 2 ^ a < 256 := fun b hb => by rw [or_ad hb]; omega
  have him : ∀ S k, k ≤ a + 1 → im σ S k < 256 := fun S k hk => Nat.lt_of_lt_of_le (im_lt (m := n) k (fun i hi _ => hs i (by omega))) (p2_le hn)
  unfold m_65
  rw [r_67_3, r_67_1, r_67_4, g_71 (by omega), o_g_t, g_69 (by omega), o_g_t, i_cl (by omega), hra, g_72 (by omega), o_g_t, i_cl (by omega), (hJ a ha).1, (hJ (σ a) hsa).2]
  by_cases c : mk V a 256 = mk W (σ a) 256
  · rw [if_pos (show ai_cmp _ _ = 0 by rw [j_ceq]; exact c), r_67_2, g_70 (by omega), o_g_t, o_b1_s]
    have e0 : (nI 0).toNatClampNeg = 0 := rfl
    have him0 : im σ 0 a = 0 := tb_ext (fun x => by
      rw [im_tb, Nat.zero_testBit]
      exact ⟨fun ⟨i, _, h, _⟩ => (by rw [Nat.zero_testBit] at h; cases h), (fun h => by cases h)⟩)
    refine wp_s2 (wp_lp (fun i s => s.1 = nI i ∧ ot I s.2 70 ∧ IMf s.2 σ a ∧ ∀ b, b < i → s.2 70 (b ||| 2 ^ a) = nI (im σ (b ||| 2 ^ a) (a + 1)) ∧ V (b ||| 2 ^ a) = W (im σ (b ||| 2 ^ a) (a + 1))) 0 (2 ^ a) (Nat.zero_le _) (by omega) ⟨rfl, fun x hx => up_ne hx, fun S hS => ?_, fun b hb => absurd hb (Nat.not_lt_zero _)⟩ ?_ ?_)
    · show va_up I 70 (va_up (I 70) 0 (nI 0)) 70 S = _
      rw [up_eq]
      by_cases e : S = 0
      · rw [e, up_eq, him0]
      · rw [up_ne e]
        exact hg S (by omega) hS
    · rintro b ⟨s, M⟩ hb ⟨h3, h4, h5, h6⟩
      dsimp only at h3 h4 h5 h6
      subst h3
      have hob := hor b hb
      have hi1 := him b a (by omega)
      have hi2 := him (b ||| 2 ^ a) (a + 1) (Nat.le_refl _)
      have hlt : b < b ||| 2 ^ a := by rw [or_ad hb]; have := Nat.two_pow_pos a; omega
      have hne : ∀ b2, b2 < 2 ^ a → ¬ b2 = b ||| 2 ^ a := fun b2 h9 e => by rw [or_ad hb] at e; omega
      have hMr : M 69 a = nI (σ a) := by rw [h4 69 (by decide), hra]
      unfold m_65_b33
      dsimp only
      rw [i_shl (by decide) (by omega), Nat.one_mul, if_neg (nI_ge hb (by omega)), i_or, o_b1_s, r_67_2, r_67_1, g_70 (by omega), o_g_t, g_69 (by omega), o_g_t, g_70 hob, o_g_t, i_cl (by omega), i_cl (by omega), i_cl (by omega), hMr, h5 b hb, i_shl (by decide) (by omega), Nat.one_mul, i_or, o_b1_s, v_kd hv, o_g_t, v_rv hv, v_gv hv hob, o_g_t, v_kd hw, o_g_t, o_g_t, v_rv hw, up_eq, up_eq, ← im_or hb, v_gv hw hi2, o_g_t, i_cl (by omega), up_ne (by omega), up_ne (by omega), h4 _ (by omega), h4 _ (by omega), h.2.2.2.1 _ hob, h2.2.2.2.1 _ hi2]
      have k1 : ot I (va_up M 70 (va_up (M 70) (b ||| 2 ^ a) (nI (im σ (b ||| 2 ^ a) (a + 1))))) 70 := fun x hx => by rw [up_ne hx]; exact h4 x hx
      have k2 : IMf (va_up M 70 (va_up (M 70) (b ||| 2 ^ a) (nI (im σ (b ||| 2 ^ a) (a + 1))))) σ a := fun S hS => by rw [up_eq, up_ne (hne S hS)]; exact h5 S hS
      by_cases c2 : V (b ||| 2 ^ a) = W (im σ (b ||| 2 ^ a) (a + 1))
      · rw [if_pos c2, i_add, o_b1_s, wp_s, lq_l]
        refine ⟨rfl, k1, k2, fun b2 hb2 => ?_⟩
        by_cases e : b2 = b
        · subst e
          exact ⟨by dsimp only; rw [up_eq, up_eq], c2⟩
        · refine ⟨?_, (h6 b2 (by omega)).2⟩
          dsimp only
          rw [up_eq, up_ne (by rw [or_ad hb, or_ad (show b2 < 2 ^ a by omega)]; omega)]
          exact (h6 b2 (by omega)).1
      · rw [if_neg c2, wp_s, lq_r, lq_l]
        exact ⟨_, rfl, k1, fun S _ hS => k2 S hS, Or.inr ⟨rfl, fun h9 => c2 (h9.2 b hb)⟩⟩
    · rintro ⟨s, M⟩ ⟨h3, h4, h5, h6⟩
      dsimp only at h3 h4 h5 h6
      subst h3
      unfold m_65_b33
      dsimp only
      rw [i_shl (by decide) (by omega), Nat.one_mul, if_pos (nI_le (Nat.le_refl _) (by omega)), wp_s, lq_r, lq_r]
      refine ⟨_, rfl, h4, fun S _ hS => h5 S hS, Or.inl ⟨rfl, ⟨c, fun b hb => (h6 b hb).2⟩, fun S _ hS => ?_⟩⟩
      dsimp only
      have h9 : 2 ^ (a + 1) = 2 ^ a * 2 := Nat.pow_succ ..
      by_cases e : S < 2 ^ a
      · rw [h5 S e, im_up e 1]
      · have h10 := (h6 (S - 2 ^ a) (by omega)).1
        rw [or_ad (by omega), show S - 2 ^ a + 2 ^ a = S by omega] at h10
        exact h10
  · rw [if_neg (show ¬ ai_cmp _ _ = 0 by rw [j_ceq]; exact c), wp_s]
    exact ⟨fun _ _ => rfl, hg, Or.inr ⟨rfl, fun h => c h.1⟩⟩
