/-! Call together: sets covered and packed; loops. -/
def un : List Nat → Nat
  | [] => 0
  | b :: l => b ||| un l
theorem un_tb : ∀ (l : List Nat) (i : Nat), (un l).testBit i = true ↔ ∃ b ∈ l, b.testBit i = true
  | [], i => by
    rw [un, Nat.zero_testBit]
    exact ⟨fun h => (by cases h), fun ⟨b, h, _⟩ => absurd h (List.not_mem_nil)⟩
  | b :: l, i => by
    rw [un, Nat.testBit_or, Bool.or_eq_true, un_tb l i]
    constructor
    · rintro (h | ⟨c, h, h2⟩)
      · exact ⟨b, List.mem_cons_self .., h⟩
      · exact ⟨c, List.mem_cons_of_mem _ h, h2⟩
    · rintro ⟨c, h, h2⟩
      rcases List.mem_cons.1 h with rfl | h
      · exact Or.inl h2
      · exact Or.inr ⟨c, h, h2⟩
theorem sub_tb {a b : Nat} : a &&& b = a ↔ ∀ i, a.testBit i = true → b.testBit i = true := by
  constructor
  · intro h i hi
    rw [← h, Nat.testBit_and, Bool.and_eq_true] at hi
    exact hi.2
  · intro h
    apply Nat.eq_of_testBit_eq
    intro i
    rw [Nat.testBit_and]
    cases c : a.testBit i
    · rfl
    · rw [h i c]
      rfl
theorem dis_tb {a b : Nat} : a &&& b = 0 ↔ ∀ i, a.testBit i = true → b.testBit i = false := by
  constructor
  · intro h i hi
    have h2 : (a &&& b).testBit i = false := by rw [h, Nat.zero_testBit]
    rw [Nat.testBit_and, hi] at h2
    exact h2
  · intro h
    apply Nat.eq_of_testBit_eq
    intro i
    rw [Nat.testBit_and, Nat.zero_testBit]
    cases c : a.testBit i
    · rfl
    · rw [h i c]
      rfl
theorem sd_sub (a b : Nat) : sd a b &&& a = sd a b := sub_tb.2 (fun i hi => by
  rw [sd_bit, Bool.and_eq_true] at hi
  exact hi.1)
theorem sd_id {a b : Nat} : sd a b = a ↔ a &&& b = 0 := by
  constructor
  · intro h
    refine dis_tb.2 (fun i hi => ?_)
    rw [← h, sd_bit, Bool.and_eq_true, Bool.not_eq_true'] at hi
    exact hi.2
  · intro h
    apply Nat.eq_of_testBit_eq
    intro i
    rw [sd_bit]
    cases c : a.testBit i
    · rfl
    · rw [dis_tb.1 h i c]
      rfl
theorem sd_fact (a b : Nat) : sd a b ≤ a ∧ (¬ a &&& b = 0 → sd a b < a) ∧ (a &&& b = 0 → sd a b = a) := by
  have h1 : sd a b ≤ a := by
    rw [← sd_sub]
    exact Nat.and_le_right
  refine ⟨h1, fun h => ?_, fun h => sd_id.2 h⟩
  have h2 : ¬ sd a b = a := fun h3 => h (sd_id.1 h3)
  omega
theorem or_id {a b : Nat} : a ||| b = a ↔ b = a &&& b := by
  rw [Nat.and_comm]
  constructor
  · intro h
    refine (sub_tb.2 (fun i hi => ?_)).symm
    rw [← h, Nat.testBit_or, hi, Bool.or_true]
  · intro h
    apply Nat.eq_of_testBit_eq
    intro i
    rw [Nat.testBit_or]
    cases c : b.testBit i
    · rw [Bool.or_false]
    · rw [sub_tb.1 h.symm i c]
      rfl
theorem or_lt {a b : Nat} (h : ¬ b = a &&& b) : a < a ||| b := by
  have h1 : a ≤ a ||| b := Nat.left_le_or
  have h2 : ¬ a ||| b = a := fun h3 => h (or_id.1 h3)
  omega
theorem xor_sd {a b : Nat} (h : b &&& a = b) : a ^^^ b = sd a b := by
  apply Nat.eq_of_testBit_eq
  intro i
  rw [sd_bit, Nat.testBit_xor]
  cases c : b.testBit i
  · cases a.testBit i <;> rfl
  · rw [sub_tb.1 h i c]
    rfl
theorem BL_ix {V : Nat → Int32} {b : Nat} (h : b ∈ BL V) : ∃ p, p < (BL V).length ∧ (BL V).getD p 0 = b := by
  obtain ⟨p, hp, e⟩ := List.getElem_of_mem h
  exact ⟨p, hp, by rw [List.getD_eq_getElem?_getD, List.getElem?_eq_getElem hp, e]; rfl⟩
theorem BL_in {V : Nat → Int32} {p : Nat} (hp : p < (BL V).length) : (BL V).getD p 0 ∈ BL V := by
  rw [List.getD_eq_getElem?_getD, List.getElem?_eq_getElem hp]
  exact List.getElem_mem hp
theorem un_lt {V : Nat → Int32} {n r : Nat} (hW : WF n r V) : ∀ l : List Nat, (∀ b ∈ l, b ∈ BL V) → un l < 2 ^ n
  | [], _ => Nat.two_pow_pos n
  | b :: l, h => Nat.or_lt_two_pow (by
      have hb := BL_mem.1 (h b (List.mem_cons_self ..))
      exact (hW.2.2.2.2.1 b hb.1 hb.2).1) (un_lt hW l (fun c hc => h c (List.mem_cons_of_mem _ hc)))
theorem all_tb {n i : Nat} : (2 ^ n - 1).testBit i = true ↔ i < n := by
  rw [Nat.testBit_two_pow_sub_one]
  exact decide_eq_true_iff
theorem all_un {n U : Nat} (hU : U < 2 ^ n) (h : ∀ i, i < n → U.testBit i = true) : U = 2 ^ n - 1 := by
  apply Nat.eq_of_testBit_eq
  intro i
  by_cases hi : i < n
  · rw [h i hi, all_tb.2 hi]
  · rw [tb_hi hU (by omega)]
    cases c : (2 ^ n - 1).testBit i
    · rfl
    · exact absurd (all_tb.1 c) hi
/-- loops -/
def lps (V : Nat → Int32) (n : Nat) : Nat := fd (fun b a => sd a b) (BL V) (2 ^ n - 1)
theorem lps_tb' (i : Nat) : ∀ (l : List Nat) (a : Nat), (fd (fun b a => sd a b) l a).testBit i = true ↔ a.testBit i = true ∧ ∀ b ∈ l, b.testBit i = false
  | [], a => ⟨fun h => ⟨h, fun b hb => absurd hb (List.not_mem_nil)⟩, fun h => h.1⟩
  | x :: l, a => by
    show (fd (fun b a => sd a b) l (sd a x)).testBit i = true ↔ _
    rw [lps_tb' i l (sd a x), sd_bit, Bool.and_eq_true, Bool.not_eq_true']
    constructor
    · rintro ⟨⟨h1, h2⟩, h3⟩
      refine ⟨h1, fun b hb => ?_⟩
      rcases List.mem_cons.1 hb with rfl | hb
      · exact h2
      · exact h3 b hb
    · rintro ⟨h1, h2⟩
      exact ⟨⟨h1, h2 x (List.mem_cons_self ..)⟩, fun b hb => h2 b (List.mem_cons_of_mem _ hb)⟩
theorem lps_tb {V : Nat → Int32} {n i : Nat} : (lps V n).testBit i = true ↔ i < n ∧ ∀ b ∈ BL V, b.testBit i = false := by
  unfold lps
  rw [lps_tb', all_tb]
theorem lps_0 {V : Nat → Int32} {n : Nat} : lps V n = 0 ↔ ∀ i, i < n → ∃ b ∈ BL V, b.testBit i = true := by
  constructor
  · intro h i hi
    apply Decidable.byContradiction
    intro hc
    have h2 : (lps V n).testBit i = true := lps_tb.2 ⟨hi, fun b hb => by
      cases c : b.testBit i
      · rfl
      · exact absurd ⟨b, hb, c⟩ hc⟩
    rw [h, Nat.zero_testBit] at h2
    cases h2
  · intro h
    apply Nat.eq_of_testBit_eq
    intro i
    rw [Nat.zero_testBit]
    cases c : (lps V n).testBit i
    · rfl
    · obtain ⟨h1, h2⟩ := lps_tb.1 c
      obtain ⟨b, hb, h3⟩ := h i h1
      rw [h2 b hb] at h3
      cases h3
theorem lps_le {V : Nat → Int32} {n : Nat} (hn : n ≤ 8) : lps V n < 256 := fd_P (fun a => a < 256) (by have := p2_le hn; have := Nat.two_pow_pos n; omega) (fun b _ a ha => sd_lt ha)
theorem c_66 {I : ai_I} {t L v n r : Nat} {V : Nat → Int32} (hv : v ∈ VC) (hW : WF n r V) (h : CS I v n r V) : m_66 v I (Rc t) (Gc L) = some (nI (lps V n)) := by
  have hn := hW.2.1
  have h8 := p2_le hn
  have h0 := Nat.two_pow_pos n
  have hl := BL_len hW
  unfold m_66
  rw [v_kd hv, o_g_t, c_119 hn h.1, o_b1_s]
  refine lp_fd_s1 (fun k a => (nI a, nI k)) (fun k a => sd a ((BL V).getD k 0)) (fun a => nI a) (fun _ a => a < 256) (BL V).length (2 ^ n - 1) ?_ ?_ (by omega) (by omega) ?_
  · intro k a hk ha
    have hb := BL_at hk
    refine ⟨sd_lt ha, ?_⟩
    simp (disch := omega) only [if_pos, if_neg, o_b1_s, o_b2_s, o_b3_s, o_b4_s, o_s1_s, o_s2_l, o_s2_r, o_g_t, i_add, i_mul, i_sub, i_and, i_or, i_xor, i_sd, i_shl, Nat.one_mul, i_eq, i_lt, i_le, i_n0, i_0le, i_e0, i_0lt, i_le0, i_cl, bz_0, wp_s, lq_l, lq_r, if_true, if_false, ite_not, true_and, and_true, m_66_b7, h.2.2.1, v_rb hv, v_gb hv, h.2.2.2.2.2]
  · intro a ha
    simp (disch := omega) only [if_pos, if_neg, o_b1_s, o_b2_s, o_b3_s, o_b4_s, o_s1_s, o_s2_l, o_s2_r, o_g_t, i_add, i_mul, i_sub, i_and, i_or, i_xor, i_sd, i_shl, Nat.one_mul, i_eq, i_lt, i_le, i_n0, i_0le, i_e0, i_0lt, i_le0, i_cl, bz_0, wp_s, lq_l, lq_r, if_true, if_false, ite_not, true_and, and_true, m_66_b7, h.2.2.1]
  · rw [show fd (fun k a => sd a ((BL V).getD k 0)) (List.range (BL V).length) (2 ^ n - 1) = fd (fun b a => sd a b) (BL V) (2 ^ n - 1) from fd_get (fun b a => sd a b) 0 (BL V) _]
    rfl
/-- what the class's table holds below K -/
def FI (V : Nat → Int32) (K : Nat) (F : Nat → Nat) : Prop := F 0 = 0 ∧ ∀ S, 0 < S → S < K → F S ≤ 8 ∧ (∀ b ∈ BL V, ¬ S &&& b = 0 → F S ≤ F (sd S b) + 1) ∧ (F S = 8 ∨ ∃ b ∈ BL V, ¬ S &&& b = 0 ∧ F S = F (sd S b) + 1)
theorem FI_le {V : Nat → Int32} {K : Nat} {F : Nat → Nat} (hK : K ≤ 256) (h : FI V K F) : ∀ (l : List Nat) (S : Nat), S < K → (∀ b ∈ l, b ∈ BL V) → (∀ i, S.testBit i = true → ∃ b ∈ l, b.testBit i = true) → F S ≤ l.length
  | [], S, hS, hb, hc => by
    have e : S = 0 := by
      apply Nat.eq_of_testBit_eq
      intro i
      rw [Nat.zero_testBit]
      cases c : S.testBit i
      · rfl
      · obtain ⟨b, hb, -⟩ := hc i c
        exact absurd hb (List.not_mem_nil)
    rw [e, h.1]
    exact Nat.zero_le _
  | b :: l, S, hS, hb, hc => by
    have hb1 := hb b (List.mem_cons_self ..)
    have hb2 := (BL_mem.1 hb1).1
    obtain ⟨f1, f2, f3⟩ := sd_fact S b
    have ih := FI_le hK h l (sd S b) (by omega) (fun c hc => hb c (List.mem_cons_of_mem _ hc)) (fun i hi => by
      rw [sd_bit, Bool.and_eq_true, Bool.not_eq_true'] at hi
      obtain ⟨c, h1, h2⟩ := hc i hi.1
      rcases List.mem_cons.1 h1 with rfl | h1
      · rw [hi.2] at h2
        cases h2
      · exact ⟨c, h1, h2⟩)
    by_cases hz : S &&& b = 0
    · rw [f3 hz] at ih
      exact Nat.le_trans ih (Nat.le_succ _)
    · by_cases h0 : S = 0
      · rw [h0, h.1]
        exact Nat.zero_le _
      · have := (h.2 S (by omega) hS).2.1 b hb1 hz
        show F S ≤ l.length + 1
        omega
/-- what covers -/
def cvs (V : Nat → Int32) (l : List Nat) (S : Nat) : Prop := (∀ b ∈ l, b ∈ BL V) ∧ ∀ i, S.testBit i = true → ∃ b ∈ l, b.testBit i = true
theorem cv_n {V : Nat → Int32} {n : Nat} (h : ∀ i, i < n → ∃ b ∈ BL V, b.testBit i = true) : ∀ k, k ≤ n → ∃ l : List Nat, l.length = k ∧ (∀ b ∈ l, b ∈ BL V) ∧ ∀ i, i < k → ∃ b ∈ l, b.testBit i = true
  | 0, _ => ⟨[], rfl, fun b hb => absurd hb (List.not_mem_nil), fun i hi => absurd hi (Nat.not_lt_zero _)⟩
  | k + 1, hk => by
    obtain ⟨l, h1, h2, h3⟩ := cv_n h k (by omega)
    obtain ⟨b, hb, h4⟩ := h k (by omega)
    refine ⟨b :: l, by rw [List.length_cons, h1], fun c hc => ?_, fun i hi => ?_⟩
    · rcases List.mem_cons.1 hc with rfl | hc
      · exact hb
      · exact h2 c hc
    · by_cases e : i = k
      · rw [e]
        exact ⟨b, List.mem_cons_self .., h4⟩
      · obtain ⟨c, hc, h5⟩ := h3 i (by omega)
        exact ⟨c, List.mem_cons_of_mem _ hc, h5⟩
theorem FI_cv {V : Nat → Int32} {n K : Nat} {F : Nat → Nat} (hn : n ≤ 8) (hK : K ≤ 2 ^ n) (hL : ∀ i, i < n → ∃ b ∈ BL V, b.testBit i = true) (h : FI V K F) : ∀ (d S : Nat), S ≤ d → S < K → ∃ l, l.length ≤ F S ∧ cvs V l S := by
  intro d
  induction d with
  | zero =>
    intro S hd hS
    obtain rfl : S = 0 := by omega
    exact ⟨[], Nat.zero_le _, fun b hb => absurd hb (List.not_mem_nil), fun i hi => by rw [Nat.zero_testBit] at hi; cases hi⟩
  | succ d ih =>
    intro S hd hS
    by_cases h0 : S = 0
    · exact ih S (by omega) hS
    · obtain ⟨h1, h2, h3⟩ := h.2 S (by omega) hS
      rcases h3 with h3 | ⟨b, hb, hz, h3⟩
      · obtain ⟨l, l1, l2, l3⟩ := cv_n hL n (Nat.le_refl _)
        refine ⟨l, by omega, l2, fun i hi => l3 i ?_⟩
        apply Nat.lt_of_not_le
        intro h9
        rw [tb_hi (n := n) (by omega) h9] at hi
        cases hi
      · have hlt := (sd_fact S b).2.1 hz
        obtain ⟨l, l1, l2, l3⟩ := ih (sd S b) (by omega) (by omega)
        refine ⟨b :: l, by rw [List.length_cons]; omega, fun c hc => ?_, fun i hi => ?_⟩
        · rcases List.mem_cons.1 hc with rfl | hc
          · exact hb
          · exact l2 c hc
        · by_cases c : b.testBit i = true
          · exact ⟨b, List.mem_cons_self .., c⟩
          · obtain ⟨q, hq, h5⟩ := l3 i (by rw [sd_bit, hi, not_tb c]; rfl)
            exact ⟨q, List.mem_cons_of_mem _ hq, h5⟩
/-- what the reference's table holds when the sets below K have had their turn -/
def GI (V : Nat → Int32) (n K : Nat) (G : Nat → Nat) : Prop := G 0 = 0 ∧ (∀ S, S < 256 → G S = 1000000000 ∨ (G S ≤ S ∧ S < 2 ^ n ∧ ∃ l, l.length = G S ∧ (∀ b ∈ l, b ∈ BL V) ∧ un l = S)) ∧ ∀ k, k < K → ∀ b ∈ BL V, G k < 1000000000 → G (k ||| b) ≤ G k + 1
theorem GI_up {V : Nat → Int32} {n r K b : Nat} {G : Nat → Nat} (hW : WF n r V) (hK : K < 2 ^ n) (hb : b ∈ BL V) (hG : G K < 1000000000) (hz : ¬ b = K &&& b) (h : GI V n K G) : GI V n K (va_up G (K ||| b) (min (G (K ||| b)) (G K + 1))) ∧ (∀ S, va_up G (K ||| b) (min (G (K ||| b)) (G K + 1)) S ≤ G S) ∧ va_up G (K ||| b) (min (G (K ||| b)) (G K + 1)) K = G K := by
  have h8 := p2_le hW.2.1
  have hb2 := (hW.2.2.2.2.1 b (BL_mem.1 hb).1 (BL_mem.1 hb).2).1
  have hT : K ||| b < 2 ^ n := Nat.or_lt_two_pow hK hb2
  have hlt := or_lt hz
  have hle : ∀ S, va_up G (K ||| b) (min (G (K ||| b)) (G K + 1)) S ≤ G S := fun S => by
    by_cases e : S = K ||| b
    · rw [e, up_eq]
      exact Nat.min_le_left _ _
    · rw [up_ne e]
      exact Nat.le_refl _
  obtain ⟨g1, g2, g3⟩ := h
  refine ⟨⟨by rw [up_ne (by omega)]; exact g1, fun S hS => ?_, fun k hk c hc h9 => ?_⟩, hle, by rw [up_ne (by omega)]⟩
  · by_cases e : S = K ||| b
    · rw [e, up_eq]
      by_cases c : G (K ||| b) ≤ G K + 1
      · rw [Nat.min_eq_left c]
        exact g2 _ (by omega)
      · rw [Nat.min_eq_right (by omega)]
        rcases g2 K (by omega) with k1 | ⟨k1, k2, l, k3, k4, k5⟩
        · omega
        · refine Or.inr ⟨by omega, hT, b :: l, by rw [List.length_cons, k3], fun q hq => ?_, ?_⟩
          · rcases List.mem_cons.1 hq with rfl | hq
            · exact hb
            · exact k4 q hq
          · rw [un, k5, Nat.or_comm]
    · rw [up_ne e]
      exact g2 S hS
  · rw [up_ne (show ¬ k = K ||| b by omega)] at h9 ⊢
    exact Nat.le_trans (hle _) (g3 k hk c hc h9)
theorem GI_le {V : Nat → Int32} {n r : Nat} {G : Nat → Nat} (hW : WF n r V) (h : GI V n (2 ^ n) G) : ∀ l : List Nat, (∀ b ∈ l, b ∈ BL V) → l.length < 1000000000 → G (un l) ≤ l.length
  | [], _, _ => by rw [un, h.1]; exact Nat.zero_le _
  | b :: l, hl, hn => by
    rw [List.length_cons] at hn
    have hl2 : ∀ c ∈ l, c ∈ BL V := fun c hc => hl c (List.mem_cons_of_mem _ hc)
    have ih := GI_le hW h l hl2 (by omega)
    have h3 := h.2.2 (un l) (un_lt hW l hl2) b (hl b (List.mem_cons_self ..)) (by omega)
    rw [un, Nat.or_comm, List.length_cons]
    omega
/-- both come to the same -/
theorem cov_one {V : Nat → Int32} {n r : Nat} {F G : Nat → Nat} (hW : WF n r V) (hG : GI V n (2 ^ n) G) (hF : lps V n = 0 → FI V (2 ^ n) F) : (lps V n = 0 → G (2 ^ n - 1) = F (2 ^ n - 1) ∧ F (2 ^ n - 1) ≤ 8) ∧ (¬ lps V n = 0 → G (2 ^ n - 1) = 1000000000) := by
  have hn := hW.2.1
  have h8 := p2_le hn
  have h0 := Nat.two_pow_pos n
  have h2 : 2 ^ 1 ≤ 2 ^ n := Nat.pow_le_pow_right (by decide) (by have := hW.1; omega)
  constructor
  · intro hz
    have hF := hF hz
    obtain ⟨l, l1, l2, l3⟩ := FI_cv hn (Nat.le_refl _) (lps_0.1 hz) hF _ (2 ^ n - 1) (Nat.le_refl _) (by omega)
    have f8 := (hF.2 (2 ^ n - 1) (by omega) (by omega)).1
    have hu : un l = 2 ^ n - 1 := all_un (un_lt hW l l2) (fun i hi => by
      obtain ⟨b, hb, e⟩ := l3 i (all_tb.2 hi)
      exact (un_tb l i).2 ⟨b, hb, e⟩)
    have g1 := GI_le hW hG l l2 (by omega)
    rw [hu] at g1
    rcases hG.2.1 (2 ^ n - 1) (by omega) with k1 | ⟨k1, k2, m, k3, k4, k5⟩
    · omega
    · have f1 := FI_le (by omega) hF m (2 ^ n - 1) (by omega) k4 (fun i hi => by
        rw [← k5] at hi
        exact (un_tb m i).1 hi)
      exact ⟨by omega, f8⟩
  · intro hz
    rcases hG.2.1 (2 ^ n - 1) (by omega) with k1 | ⟨k1, k2, m, k3, k4, k5⟩
    · exact k1
    · exfalso
      apply hz
      refine lps_0.2 (fun i hi => ?_)
      have h3 := all_tb.2 hi
      rw [← k5] at h3
      obtain ⟨b, hb, e⟩ := (un_tb m i).1 h3
      exact ⟨b, k4 b hb, e⟩
theorem c_77 {I : ai_I} {t L v n r : Nat} {V : Nat → Int32} (hv : v ∈ VC) (hW : WF n r V) (h : CS I v n r V) : wp (m_77 v 73 I (Rc t) (Gc L)) (fun q => (∀ c, ¬ c = 73 → q.2 c = I c) ∧ ∃ F, (lps V n = 0 → FI V (2 ^ n) F ∧ q.1 = nI (F (2 ^ n - 1))) ∧ (¬ lps V n = 0 → q.1 = -2)) := by
  have hn := hW.2.1
  have h8 := p2_le hn
  have h0 := Nat.two_pow_pos n
  have hl := BL_len hW
  have hlp := lps_le (V := V) hn
  have hvv := vc_51 v hv
  simp (disch := omega) only [o_b1_s, o_b2_s, o_b3_s, o_b4_s, o_s1_s, o_s2_l, o_s2_r, o_g_t, i_add, i_mul, i_sub, i_and, i_or, i_xor, i_sd, i_shl, Nat.one_mul, i_eq, i_lt, i_le, i_n0, i_0le, i_e0, i_0lt, i_le0, i_cl, bz_0, wp_s, lq_l, lq_r, if_true, if_false, ite_not, true_and, and_true, m_77, c_66 hv hW h]
  split
  · rename_i hz
    simp (disch := omega) only [o_b1_s, o_b2_s, o_b3_s, o_b4_s, o_s1_s, o_s2_l, o_s2_r, o_g_t, i_add, i_mul, i_sub, i_and, i_or, i_xor, i_sd, i_shl, Nat.one_mul, i_eq, i_lt, i_le, i_n0, i_0le, i_e0, i_0lt, i_le0, i_cl, bz_0, wp_s, lq_l, lq_r, if_true, if_false, ite_not, true_and, and_true, g_73]
    refine wp_s1 (wp_lp (fun K s => ∃ F J, s = (nI K, J) ∧ 1 ≤ K ∧ (∀ c, ¬ c = 73 → J c = I c) ∧ FI V K F ∧ ∀ S, S < K → J 73 S = nI (F S)) 1 (2 ^ n) h0 (by omega) ⟨fun _ => 0, _, rfl, Nat.le_refl _, fun c hc => by rw [up_ne hc], ⟨rfl, fun S h1 h2 => absurd h2 (by omega)⟩, fun S hS => by
      obtain rfl : S = 0 := by omega
      rw [up_eq, up_eq]⟩ ?_ ?_)
    · rintro K _ hK ⟨F, J, rfl, hK1, hJ, hF, hT⟩
      have hC : CS J v n r V := CS_cong (fun _ _ => rfl) (hJ _ (by omega)) (hJ _ (by omega)) (hJ _ (by omega)) (hJ _ (by omega)) h
      simp (disch := omega) only [if_pos, if_neg, o_b1_s, o_b2_s, o_b3_s, o_b4_s, o_s1_s, o_s2_l, o_s2_r, o_g_t, i_add, i_mul, i_sub, i_and, i_or, i_xor, i_sd, i_shl, Nat.one_mul, i_eq, i_lt, i_le, i_n0, i_0le, i_e0, i_0lt, i_le0, i_cl, bz_0, wp_s, lq_l, lq_r, if_true, if_false, ite_not, true_and, and_true, m_77_b16, v_kd hv, c_118 hn hC.1]
      refine wp_s1 (wp_lp (fun p s => ∃ B, s = (nI B, nI p) ∧ B ≤ 8 ∧ (∀ q, q < p → ¬ K &&& (BL V).getD q 0 = 0 → B ≤ F (sd K ((BL V).getD q 0)) + 1) ∧ (B = 8 ∨ ∃ q, q < p ∧ ¬ K &&& (BL V).getD q 0 = 0 ∧ B = F (sd K ((BL V).getD q 0)) + 1)) 0 (BL V).length (Nat.zero_le _) (by omega) ⟨8, rfl, Nat.le_refl _, fun q hq => absurd hq (Nat.not_lt_zero _), Or.inl rfl⟩ ?_ ?_)
      · rintro p _ hp ⟨B, rfl, hB, hq1, hq2⟩
        have hb := BL_at hp
        have hf := sd_fact K ((BL V).getD p 0)
        have ha : K &&& (BL V).getD p 0 < 256 := bit_and_lt (by omega)
        simp (disch := omega) only [if_pos, if_neg, o_b1_s, o_b2_s, o_b3_s, o_b4_s, o_s1_s, o_s2_l, o_s2_r, o_g_t, i_add, i_mul, i_sub, i_and, i_or, i_xor, i_sd, i_shl, Nat.one_mul, i_eq, i_lt, i_le, i_n0, i_0le, i_e0, i_0lt, i_le0, i_cl, bz_0, wp_s, lq_l, lq_r, if_true, if_false, ite_not, true_and, and_true, m_77_b30, hC.2.2.1, v_rb hv, v_gb hv, hC.2.2.2.2.2, g_73]
        split
        · rename_i c0
          simp (disch := omega) only [o_b1_s, o_b2_s, o_b3_s, o_b4_s, o_s1_s, o_s2_l, o_s2_r, o_g_t, i_add, i_mul, i_sub, i_and, i_or, i_xor, i_sd, i_shl, Nat.one_mul, i_eq, i_lt, i_le, i_n0, i_0le, i_e0, i_0lt, i_le0, i_cl, bz_0, wp_s, lq_l, lq_r, if_true, if_false, ite_not, true_and, and_true]
          refine ⟨B, rfl, hB, fun q hq hz2 => ?_, ?_⟩
          · by_cases e : q = p
            · rw [e] at hz2
              exact absurd c0 hz2
            · exact hq1 q (by omega) hz2
          · rcases hq2 with hq2 | ⟨q, a1, a2, a3⟩
            · exact Or.inl hq2
            · exact Or.inr ⟨q, by omega, a2, a3⟩
        · rename_i c0
          have hlt := hf.2.1 c0
          have hF8 : F (sd K ((BL V).getD p 0)) ≤ 8 := by
            by_cases e : sd K ((BL V).getD p 0) = 0
            · rw [e, hF.1]
              exact Nat.zero_le _
            · exact (hF.2 _ (by omega) hlt).1
          rw [hT _ hlt]
          simp (disch := omega) only [o_b1_s, o_b2_s, o_b3_s, o_b4_s, o_s1_s, o_s2_l, o_s2_r, o_g_t, i_add, i_mul, i_sub, i_and, i_or, i_xor, i_sd, i_shl, Nat.one_mul, i_eq, i_lt, i_le, i_n0, i_0le, i_e0, i_0lt, i_le0, i_cl, bz_0, wp_s, lq_l, lq_r, if_true, if_false, ite_not, true_and, and_true]
          split
          · rename_i c1
            refine ⟨_, rfl, by omega, fun q hq hz2 => ?_, Or.inr ⟨p, by omega, c0, rfl⟩⟩
            by_cases e : q = p
            · rw [e]
              exact Nat.le_refl _
            · have := hq1 q (by omega) hz2
              omega
          · rename_i c1
            refine ⟨B, rfl, hB, fun q hq hz2 => ?_, ?_⟩
            · by_cases e : q = p
              · rw [e]
                omega
              · exact hq1 q (by omega) hz2
            · rcases hq2 with hq2 | ⟨q, a1, a2, a3⟩
              · exact Or.inl hq2
              · exact Or.inr ⟨q, by omega, a2, a3⟩
      · rintro _ ⟨B, rfl, hB, hq1, hq2⟩
        simp (disch := omega) only [if_pos, if_neg, o_b1_s, o_b2_s, o_b3_s, o_b4_s, o_s1_s, o_s2_l, o_s2_r, o_g_t, i_add, i_mul, i_sub, i_and, i_or, i_xor, i_sd, i_shl, Nat.one_mul, i_eq, i_lt, i_le, i_n0, i_0le, i_e0, i_0lt, i_le0, i_cl, bz_0, wp_s, lq_l, lq_r, if_true, if_false, ite_not, true_and, and_true, m_77_b30, hC.2.2.1, m_77_x30_77, g_73]
        refine ⟨va_up F K B, _, rfl, by omega, fun c hc => by rw [up_ne hc]; exact hJ c hc, ⟨by rw [up_ne (by omega)]; exact hF.1, fun S s1 s2 => ?_⟩, fun S hS => ?_⟩
        · by_cases e : S = K
          · rw [e, up_eq]
            refine ⟨hB, fun b hb hz2 => ?_, ?_⟩
            · have hlt := (sd_fact K b).2.1 hz2
              obtain ⟨q, hq, e2⟩ := BL_ix hb
              rw [up_ne (by omega), ← e2]
              rw [← e2] at hz2
              exact hq1 q hq hz2
            · rcases hq2 with hq2 | ⟨q, a1, a2, a3⟩
              · exact Or.inl hq2
              · have hlt := (sd_fact K ((BL V).getD q 0)).2.1 a2
                exact Or.inr ⟨_, BL_in a1, a2, by rw [up_ne (by omega)]; exact a3⟩
          · obtain ⟨h1, h2, h3⟩ := hF.2 S s1 (by omega)
            rw [up_ne e]
            refine ⟨h1, fun b hb hz2 => ?_, ?_⟩
            · have hlt := (sd_fact S b).2.1 hz2
              rw [up_ne (by omega)]
              exact h2 b hb hz2
            · rcases h3 with h3 | ⟨b, a1, a2, a3⟩
              · exact Or.inl h3
              · have hlt := (sd_fact S b).2.1 a2
                exact Or.inr ⟨b, a1, a2, by rw [up_ne (by omega)]; exact a3⟩
        · rw [up_eq]
          by_cases e : S = K
          · rw [e, up_eq, up_eq]
          · rw [up_ne e, up_ne e]
            exact hT S (by omega)
    · rintro _ ⟨F, J, rfl, hK1, hJ, hF, hT⟩
      have hC : CS J v n r V := CS_cong (fun _ _ => rfl) (hJ _ (by omega)) (hJ _ (by omega)) (hJ _ (by omega)) (hJ _ (by omega)) h
      simp (disch := omega) only [if_pos, if_neg, o_b1_s, o_b2_s, o_b3_s, o_b4_s, o_s1_s, o_s2_l, o_s2_r, o_g_t, i_add, i_mul, i_sub, i_and, i_or, i_xor, i_sd, i_shl, Nat.one_mul, i_eq, i_lt, i_le, i_n0, i_0le, i_e0, i_0lt, i_le0, i_cl, bz_0, wp_s, lq_l, lq_r, if_true, if_false, ite_not, true_and, and_true, m_77_b16, v_kd hv, c_118 hn hC.1, m_77_x16_87, c_119 hn hC.1, g_73]
      exact ⟨hJ, F, fun _ => ⟨hF, hT _ (by omega)⟩, fun h9 => absurd hz h9⟩
  · rename_i hz
    simp (disch := omega) only [o_b1_s, o_b2_s, o_b3_s, o_b4_s, o_s1_s, o_s2_l, o_s2_r, o_g_t, i_add, i_mul, i_sub, i_and, i_or, i_xor, i_sd, i_shl, Nat.one_mul, i_eq, i_lt, i_le, i_n0, i_0le, i_e0, i_0lt, i_le0, i_cl, bz_0, wp_s, lq_l, lq_r, if_true, if_false, ite_not, true_and, and_true]
    exact ⟨fun _ _ => trivial, fun _ => 0, fun h9 => absurd h9 hz, fun _ => trivial⟩
