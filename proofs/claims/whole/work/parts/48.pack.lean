/-! Call together: the reference's cover; packs. -/
theorem s_190n {a b : Nat} (ha : a < 2147483648) (hb : b < 2147483648) : m_190 (nI a) (nI b) = some (nI (min a b)) := by
  rw [s_190]
  by_cases h : b ≤ a
  · rw [q_leT ha h, Nat.min_eq_right h]
  · rw [q_leF hb (by omega), Nat.min_eq_left (by omega)]
theorem s_288 {I : ai_I} {t L s n r : Nat} (hs : s < 4) (hW : WF n r (FV I s)) (hI : I 76 (258 * s) = nI n) : wp (m_288 75 (nI s) I (Rc t) (Gc L)) (fun q => (∀ c, ¬ c = 86 → q.2 c = I c) ∧ ∃ G, GI (FV I s) n (2 ^ n) G ∧ q.1 = if G (2 ^ n - 1) = 1000000000 then -2 else nI (G (2 ^ n - 1))) := by
  have hn := hW.2.1
  have h8 := p2_le hn
  have h0 := Nat.two_pow_pos n
  have hF : ∀ K : ai_I, (∀ c, ¬ c = 86 → K c = I c) → FV K s = FV I s := fun K hK => by
    unfold FV
    rw [hK 76 (by decide)]
  unfold m_288
  refine wp_s1 (wp_lp (fun i q => ∃ J, q = (nI i, J) ∧ (∀ c, ¬ c = 86 → J c = I c) ∧ ∀ S, S < i → J 86 S = nI (if S = 0 then 0 else 1000000000)) 0 256 (Nat.zero_le _) (by omega) ⟨I, rfl, fun _ _ => rfl, fun S h1 => absurd h1 (Nat.not_lt_zero _)⟩ ?_ ?_)
  · rintro i _ hi ⟨J, rfl, hJ, hT⟩
    have key : ∀ x : Nat, x = (if i = 0 then 0 else 1000000000) → (∀ c, ¬ c = 86 → va_up J 86 (va_up (J 86) i (nI x)) c = I c) ∧ ∀ S, S < i + 1 → va_up J 86 (va_up (J 86) i (nI x)) 86 S = nI (if S = 0 then 0 else 1000000000) := fun x hx => by
      refine ⟨fun c hc => by rw [up_ne hc]; exact hJ c hc, fun S hS => ?_⟩
      rw [up_eq]
      by_cases e : S = i
      · rw [e, up_eq, hx]
      · rw [up_ne e]
        exact hT S (by omega)
    simp (disch := omega) only [if_pos, if_neg, o_b1_s, o_b2_s, o_b3_s, o_b4_s, o_s1_s, o_s2_l, o_s2_r, o_g_t, i_add, i_mul, i_sub, i_and, i_or, i_xor, i_sd, i_shl, Nat.one_mul, i_eq, i_lt, i_le, i_n0, i_0le, i_e0, i_0lt, i_le0, i_cl, bz_0, wp_s, lq_l, lq_r, if_true, if_false, ite_not, true_and, and_true, m_288_b2, m_288_j25, r_75_25, g_86]
    split
    · rename_i c
      simp (disch := omega) only [o_b1_s, o_b2_s, o_b3_s, o_b4_s, o_s1_s, o_s2_l, o_s2_r, o_g_t, i_add, i_mul, i_sub, i_and, i_or, i_xor, i_sd, i_shl, Nat.one_mul, i_eq, i_lt, i_le, i_n0, i_0le, i_e0, i_0lt, i_le0, i_cl, bz_0, wp_s, lq_l, lq_r, if_true, if_false, ite_not, true_and, and_true]
      exact ⟨_, rfl, key 0 (by rw [if_pos c])⟩
    · rename_i c
      simp (disch := omega) only [o_b1_s, o_b2_s, o_b3_s, o_b4_s, o_s1_s, o_s2_l, o_s2_r, o_g_t, i_add, i_mul, i_sub, i_and, i_or, i_xor, i_sd, i_shl, Nat.one_mul, i_eq, i_lt, i_le, i_n0, i_0le, i_e0, i_0lt, i_le0, i_cl, bz_0, wp_s, lq_l, lq_r, if_true, if_false, ite_not, true_and, and_true]
      exact ⟨_, rfl, key 1000000000 (by rw [if_neg c])⟩
  · rintro _ ⟨J, rfl, hJ, hT⟩
    simp (disch := omega) only [if_pos, if_neg, o_b1_s, o_b2_s, o_b3_s, o_b4_s, o_s1_s, o_s2_l, o_s2_r, o_g_t, i_add, i_mul, i_sub, i_and, i_or, i_xor, i_sd, i_shl, Nat.one_mul, i_eq, i_lt, i_le, i_n0, i_0le, i_e0, i_0lt, i_le0, i_cl, bz_0, wp_s, lq_l, lq_r, if_true, if_false, ite_not, true_and, and_true, m_288_b2, m_288_x2_32]
    refine wp_s1 (wp_lp (fun K q => ∃ J G, q = (nI K, J) ∧ (∀ c, ¬ c = 86 → J c = I c) ∧ GI (FV I s) n K G ∧ ∀ S, S < 256 → J 86 S = nI (G S)) 0 (2 ^ n) (Nat.zero_le _) (by omega) ⟨J, fun S => if S = 0 then 0 else 1000000000, rfl, hJ, ⟨rfl, fun S hS => ?_, fun k hk => absurd hk (Nat.not_lt_zero _)⟩, hT⟩ ?_ ?_)
    · by_cases e : S = 0
      · subst e
        exact Or.inr ⟨Nat.le_refl _, h0, [], rfl, fun b hb => absurd hb (List.not_mem_nil), rfl⟩
      · exact Or.inl (if_neg e)
    · rintro K _ hK ⟨J, G, rfl, hJ, hG, hT⟩
      simp (disch := omega) only [if_pos, if_neg, o_b1_s, o_b2_s, o_b3_s, o_b4_s, o_s1_s, o_s2_l, o_s2_r, o_g_t, i_add, i_mul, i_sub, i_and, i_or, i_xor, i_sd, i_shl, Nat.one_mul, i_eq, i_lt, i_le, i_n0, i_0le, i_e0, i_0lt, i_le0, i_cl, bz_0, wp_s, lq_l, lq_r, if_true, if_false, ite_not, true_and, and_true, m_288_b34, s_197 (s := s) (n := n) (I := J) (by omega) hn (by rw [hJ 76 (by decide)]; exact hI)]
      refine wp_s1 (wp_lp (fun b q => ∃ J G, q = (nI b, J) ∧ (∀ c, ¬ c = 86 → J c = I c) ∧ GI (FV I s) n K G ∧ (∀ S, S < 256 → J 86 S = nI (G S)) ∧ ∀ c, c < b → c ∈ BL (FV I s) → G K < 1000000000 → G (K ||| c) ≤ G K + 1) 0 256 (Nat.zero_le _) (by omega) ⟨J, G, rfl, hJ, hG, hT, fun c hc => absurd hc (Nat.not_lt_zero _)⟩ ?_ ?_)
      · rintro b _ hb ⟨J, G, rfl, hJ, hG, hT, hQ⟩
        have hGK : G K ≤ 1000000000 := by
          rcases hG.2.1 K (by omega) with e | ⟨e, -, -⟩ <;> omega
        have ho : K ||| b < 256 := bit_or_lt (by omega) hb
        have hGb : G (K ||| b) ≤ 1000000000 := by
          rcases hG.2.1 (K ||| b) ho with e | ⟨e, -, -⟩ <;> omega
        have ha : K &&& b < 256 := bit_and_lt (by omega)
        simp (disch := omega) only [if_pos, if_neg, o_b1_s, o_b2_s, o_b3_s, o_b4_s, o_s1_s, o_s2_l, o_s2_r, o_g_t, i_add, i_mul, i_sub, i_and, i_or, i_xor, i_sd, i_shl, Nat.one_mul, i_eq, i_lt, i_le, i_n0, i_0le, i_e0, i_0lt, i_le0, i_cl, bz_0, wp_s, lq_l, lq_r, if_true, if_false, ite_not, true_and, and_true, m_288_b45, m_288_j106, r_75_25, g_86, hT, s_199, hF J hJ, s_190n]
        split
        · rename_i c0
          simp (disch := omega) only [o_b1_s, o_b2_s, o_b3_s, o_b4_s, o_s1_s, o_s2_l, o_s2_r, o_g_t, i_add, i_mul, i_sub, i_and, i_or, i_xor, i_sd, i_shl, Nat.one_mul, i_eq, i_lt, i_le, i_n0, i_0le, i_e0, i_0lt, i_le0, i_cl, bz_0, wp_s, lq_l, lq_r, if_true, if_false, ite_not, true_and, and_true, m_288_x45_117]
          refine ⟨J, G, rfl, hJ, ⟨hG.1, hG.2.1, fun k hk c hc h9 => ?_⟩, hT⟩
          by_cases e : k = K
          · subst e
            omega
          · exact hG.2.2 k (by omega) c hc h9
        · rename_i c0
          split
          · rename_i c1
            simp (disch := omega) only [o_b1_s, o_b2_s, o_b3_s, o_b4_s, o_s1_s, o_s2_l, o_s2_r, o_g_t, i_add, i_mul, i_sub, i_and, i_or, i_xor, i_sd, i_shl, Nat.one_mul, i_eq, i_lt, i_le, i_n0, i_0le, i_e0, i_0lt, i_le0, i_cl, bz_0, wp_s, lq_l, lq_r, if_true, if_false, ite_not, true_and, and_true]
            refine ⟨J, G, rfl, hJ, hG, hT, fun c hc hc2 h9 => ?_⟩
            by_cases e : c = b
            · subst e
              exact absurd c1 (BL_mem.1 hc2).2
            · exact hQ c (by omega) hc2 h9
          · rename_i c1
            split
            · rename_i c2
              have e2 := or_id.2 c2
              simp (disch := omega) only [o_b1_s, o_b2_s, o_b3_s, o_b4_s, o_s1_s, o_s2_l, o_s2_r, o_g_t, i_add, i_mul, i_sub, i_and, i_or, i_xor, i_sd, i_shl, Nat.one_mul, i_eq, i_lt, i_le, i_n0, i_0le, i_e0, i_0lt, i_le0, i_cl, bz_0, wp_s, lq_l, lq_r, if_true, if_false, ite_not, true_and, and_true]
              refine ⟨_, G, rfl, fun c hc => by rw [up_ne hc]; exact hJ c hc, hG, fun S hS => ?_, fun c hc hc2 h9 => ?_⟩
              · rw [up_eq]
                by_cases e : S = K ||| b
                · rw [e, up_eq, e2, Nat.add_zero, Nat.min_self]
                · rw [up_ne e]
                  exact hT S hS
              · by_cases e : c = b
                · subst e
                  rw [e2]
                  omega
                · exact hQ c (by omega) hc2 h9
            · rename_i c2
              have hbB : b ∈ BL (FV I s) := BL_mem.2 ⟨hb, c1⟩
              obtain ⟨u1, u2, u3⟩ := GI_up hW hK hbB (by omega) c2 hG
              simp (disch := omega) only [o_b1_s, o_b2_s, o_b3_s, o_b4_s, o_s1_s, o_s2_l, o_s2_r, o_g_t, i_add, i_mul, i_sub, i_and, i_or, i_xor, i_sd, i_shl, Nat.one_mul, i_eq, i_lt, i_le, i_n0, i_0le, i_e0, i_0lt, i_le0, i_cl, bz_0, wp_s, lq_l, lq_r, if_true, if_false, ite_not, true_and, and_true]
              refine ⟨_, va_up G (K ||| b) (min (G (K ||| b)) (G K + 1)), rfl, fun c hc => by rw [up_ne hc]; exact hJ c hc, u1, fun S hS => ?_, fun c hc hc2 h9 => ?_⟩
              · rw [up_eq]
                by_cases e : S = K ||| b
                · rw [e, up_eq, up_eq]
                · rw [up_ne e, up_ne e]
                  exact hT S hS
              · rw [u3] at h9 ⊢
                by_cases e : c = b
                · subst e
                  rw [up_eq]
                  exact Nat.min_le_right _ _
                · exact Nat.le_trans (u2 _) (hQ c (by omega) hc2 h9)
      · rintro _ ⟨J, G, rfl, hJ, hG, hT, hQ⟩
        simp (disch := omega) only [if_pos, if_neg, o_b1_s, o_b2_s, o_b3_s, o_b4_s, o_s1_s, o_s2_l, o_s2_r, o_g_t, i_add, i_mul, i_sub, i_and, i_or, i_xor, i_sd, i_shl, Nat.one_mul, i_eq, i_lt, i_le, i_n0, i_0le, i_e0, i_0lt, i_le0, i_cl, bz_0, wp_s, lq_l, lq_r, if_true, if_false, ite_not, true_and, and_true, m_288_b45, m_288_x45_117]
        refine ⟨J, G, rfl, hJ, ⟨hG.1, hG.2.1, fun k hk c hc h9 => ?_⟩, hT⟩
        by_cases e : k = K
        · subst e
          exact hQ c (BL_mem.1 hc).1 hc h9
        · exact hG.2.2 k (by omega) c hc h9
    · rintro _ ⟨J, G, rfl, hJ, hG, hT⟩
      have hGb : G (2 ^ n - 1) ≤ 1000000000 := by
        rcases hG.2.1 (2 ^ n - 1) (by omega) with e | ⟨e, -, -⟩ <;> omega
      simp (disch := omega) only [if_pos, if_neg, o_b1_s, o_b2_s, o_b3_s, o_b4_s, o_s1_s, o_s2_l, o_s2_r, o_g_t, i_add, i_mul, i_sub, i_and, i_or, i_xor, i_sd, i_shl, Nat.one_mul, i_eq, i_lt, i_le, i_n0, i_0le, i_e0, i_0lt, i_le0, i_cl, bz_0, wp_s, lq_l, lq_r, if_true, if_false, ite_not, true_and, and_true, m_288_b34, s_197 (s := s) (n := n) (I := J) (by omega) hn (by rw [hJ 76 (by decide)]; exact hI), m_288_x34_123, r_75_25, g_86, hT]
      split
      · rename_i c
        simp (disch := omega) only [o_b1_s, o_b2_s, o_b3_s, o_b4_s, o_s1_s, o_s2_l, o_s2_r, o_g_t, i_add, i_mul, i_sub, i_and, i_or, i_xor, i_sd, i_shl, Nat.one_mul, i_eq, i_lt, i_le, i_n0, i_0le, i_e0, i_0lt, i_le0, i_cl, bz_0, wp_s, lq_l, lq_r, if_true, if_false, ite_not, true_and, and_true]
        exact ⟨hJ, G, hG, by rw [if_pos c]⟩
      · rename_i c
        simp (disch := omega) only [o_b1_s, o_b2_s, o_b3_s, o_b4_s, o_s1_s, o_s2_l, o_s2_r, o_g_t, i_add, i_mul, i_sub, i_and, i_or, i_xor, i_sd, i_shl, Nat.one_mul, i_eq, i_lt, i_le, i_n0, i_0le, i_e0, i_0lt, i_le0, i_cl, bz_0, wp_s, lq_l, lq_r, if_true, if_false, ite_not, true_and, and_true]
        exact ⟨hJ, G, hG, by rw [if_neg c]⟩
/-- in turn without an element in common -/
def dj : List Nat → Prop
  | [] => True
  | b :: l => b &&& un l = 0 ∧ dj l
/-- what the class's table of packs holds below K -/
def FP (V : Nat → Int32) (K : Nat) (F : Nat → Nat) : Prop := ∀ S, S < K → F S ≤ S ∧ (∀ b ∈ BL V, b &&& S = b → F (S ^^^ b) + 1 ≤ F S) ∧ (F S = 0 ∨ ∃ b ∈ BL V, b &&& S = b ∧ F S = F (S ^^^ b) + 1)
theorem BL_p {n r : Nat} {V : Nat → Int32} (hW : WF n r V) {b : Nat} (h : b ∈ BL V) : b < 2 ^ n ∧ 0 < b := by
  have hb := BL_mem.1 h
  obtain ⟨h1, h2, -⟩ := hW.2.2.2.2.1 b hb.1 hb.2
  refine ⟨h1, Nat.pos_of_ne_zero (fun h3 => ?_)⟩
  rw [h3] at h2
  have := hW.2.2.1
  have e : pc 0 = 0 := by decide
  omega
theorem xor_lt2 {S b : Nat} (h : b &&& S = b) (hb : 0 < b) : S ^^^ b < S := by
  rw [xor_sd h]
  refine (sd_fact S b).2.1 (fun h2 => ?_)
  rw [Nat.and_comm] at h2
  omega
theorem FP_le {V : Nat → Int32} {n r K : Nat} {F : Nat → Nat} (hW : WF n r V) (h : FP V K F) : ∀ (l : List Nat) (S : Nat), S < K → (∀ b ∈ l, b ∈ BL V) → dj l → un l &&& S = un l → l.length ≤ F S
  | [], S, _, _, _, _ => Nat.zero_le _
  | b :: l, S, hS, hb, hd, hu => by
    have hb1 := hb b (List.mem_cons_self ..)
    have hbp := BL_p hW hb1
    have hbS : b &&& S = b := sub_tb.2 (fun i hi => sub_tb.1 hu i (by rw [un, Nat.testBit_or, hi]; rfl))
    have hlt := xor_lt2 hbS hbp.2
    have ih := FP_le hW h l (S ^^^ b) (by omega) (fun c hc => hb c (List.mem_cons_of_mem _ hc)) hd.2 (sub_tb.2 (fun i hi => by
      rw [xor_sd hbS, sd_bit, sub_tb.1 hu i (by rw [un, Nat.testBit_or, hi, Bool.or_true])]
      cases c : b.testBit i
      · rfl
      · rw [dis_tb.1 hd.1 i c] at hi
        cases hi))
    have := (h S hS).2.1 b hb1 hbS
    rw [List.length_cons]
    omega
theorem FP_ex {V : Nat → Int32} {n r K : Nat} {F : Nat → Nat} (hW : WF n r V) (h : FP V K F) : ∀ (d S : Nat), S ≤ d → S < K → ∃ l, l.length = F S ∧ (∀ b ∈ l, b ∈ BL V) ∧ dj l ∧ un l &&& S = un l := by
  intro d
  induction d with
  | zero =>
    intro S hd hS
    have := (h S hS).1
    refine ⟨[], by show 0 = F S; omega, fun b hb => absurd hb (List.not_mem_nil), trivial, Nat.zero_and _⟩
  | succ d ih =>
    intro S hd hS
    obtain ⟨h1, h2, h3⟩ := h S hS
    rcases h3 with h3 | ⟨b, hb, hz, h3⟩
    · exact ⟨[], h3.symm, fun b hb => absurd hb (List.not_mem_nil), trivial, Nat.zero_and _⟩
    · have hlt := xor_lt2 hz (BL_p hW hb).2
      obtain ⟨l, l1, l2, l3, l4⟩ := ih (S ^^^ b) (by omega) (by omega)
      rw [xor_sd hz] at l4
      refine ⟨b :: l, by rw [List.length_cons]; omega, fun c hc => ?_, ⟨?_, l3⟩, sub_tb.2 (fun i hi => ?_)⟩
      · rcases List.mem_cons.1 hc with rfl | hc
        · exact hb
        · exact l2 c hc
      · refine dis_tb.2 (fun i hi => ?_)
        cases c : (un l).testBit i
        · rfl
        · have h5 := sub_tb.1 l4 i c
          rw [sd_bit, hi, Bool.not_true, Bool.and_false] at h5
          cases h5
      · rw [un, Nat.testBit_or, Bool.or_eq_true] at hi
        rcases hi with hi | hi
        · exact sub_tb.1 hz i hi
        · have h5 := sub_tb.1 l4 i hi
          rw [sd_bit, Bool.and_eq_true] at h5
          exact h5.1
/-- what the reference's table of packs (one more; 0: none) holds when the sets below K have had their turn -/
def GP (V : Nat → Int32) (n K : Nat) (H : Nat → Nat) : Prop := 0 < H 0 ∧ (∀ S, S < 256 → H S = 0 ∨ (H S ≤ S + 1 ∧ S < 2 ^ n ∧ ∃ l, l.length + 1 = H S ∧ (∀ b ∈ l, b ∈ BL V) ∧ dj l ∧ un l = S)) ∧ ∀ k, k < K → ∀ b ∈ BL V, b &&& k = 0 → 0 < H k → H k + 1 ≤ H (k ||| b)
theorem GP_up {V : Nat → Int32} {n r K b : Nat} {H : Nat → Nat} (hW : WF n r V) (hK : K < 2 ^ n) (hb : b ∈ BL V) (hG : 0 < H K) (hz : b &&& K = 0) (h : GP V n K H) : GP V n K (va_up H (K ||| b) (max (H (K ||| b)) (H K + 1))) ∧ (∀ S, H S ≤ va_up H (K ||| b) (max (H (K ||| b)) (H K + 1)) S) ∧ va_up H (K ||| b) (max (H (K ||| b)) (H K + 1)) K = H K := by
  have h8 := p2_le hW.2.1
  have hbp := BL_p hW hb
  have hT : K ||| b < 2 ^ n := Nat.or_lt_two_pow hK hbp.1
  have hlt : K < K ||| b := or_lt (fun h2 => by rw [Nat.and_comm, hz] at h2; omega)
  have hle : ∀ S, H S ≤ va_up H (K ||| b) (max (H (K ||| b)) (H K + 1)) S := fun S => by
    by_cases e : S = K ||| b
    · rw [e, up_eq]
      exact Nat.le_max_left _ _
    · rw [up_ne e]
      exact Nat.le_refl _
  obtain ⟨g1, g2, g3⟩ := h
  refine ⟨⟨by rw [up_ne (by omega)]; exact g1, fun S hS => ?_, fun k hk c hc hz2 h9 => ?_⟩, hle, by rw [up_ne (by omega)]⟩
  · by_cases e : S = K ||| b
    · rw [e, up_eq]
      by_cases c : H K + 1 ≤ H (K ||| b)
      · rw [Nat.max_eq_left c]
        exact g2 _ (by omega)
      · rw [Nat.max_eq_right (by omega)]
        rcases g2 K (by omega) with k1 | ⟨k1, k2, l, k3, k4, k5, k6⟩
        · omega
        · refine Or.inr ⟨by omega, hT, b :: l, by rw [List.length_cons, k3], fun q hq => ?_, ⟨by rw [k6]; exact hz, k5⟩, ?_⟩
          · rcases List.mem_cons.1 hq with rfl | hq
            · exact hb
            · exact k4 q hq
          · rw [un, k6, Nat.or_comm]
    · rw [up_ne e]
      exact g2 S hS
  · rw [up_ne (show ¬ k = K ||| b by omega)] at h9 ⊢
    exact Nat.le_trans (g3 k hk c hc hz2 h9) (hle _)
theorem GP_le {V : Nat → Int32} {n r : Nat} {H : Nat → Nat} (hW : WF n r V) (h : GP V n (2 ^ n) H) : ∀ l : List Nat, (∀ b ∈ l, b ∈ BL V) → dj l → l.length + 1 ≤ H (un l)
  | [], _, _ => h.1
  | b :: l, hl, hd => by
    have hl2 : ∀ c ∈ l, c ∈ BL V := fun c hc => hl c (List.mem_cons_of_mem _ hc)
    have ih := GP_le hW h l hl2 hd.2
    have h3 := h.2.2 (un l) (un_lt hW l hl2) b (hl b (List.mem_cons_self ..)) hd.1 (by omega)
    rw [un, Nat.or_comm, List.length_cons]
    omega
theorem pack_one {V : Nat → Int32} {n r : Nat} {F H : Nat → Nat} {m : Nat} (hW : WF n r V) (hF : FP V (2 ^ n) F) (hH : GP V n (2 ^ n) H) (h1 : ∀ S, S < 2 ^ n → H S ≤ m + 1) (h2 : ∃ S, S < 2 ^ n ∧ H S = m + 1) : F (2 ^ n - 1) = m := by
  have h8 := p2_le hW.2.1
  have h0 := Nat.two_pow_pos n
  have sub : ∀ U, U < 2 ^ n → U &&& (2 ^ n - 1) = U := fun U hU => sub_tb.2 (fun i hi => all_tb.2 (by
    apply Nat.lt_of_not_le
    intro h9
    rw [tb_hi hU h9] at hi
    cases hi))
  apply Nat.le_antisymm
  · obtain ⟨l, l1, l2, l3, l4⟩ := FP_ex hW hF _ (2 ^ n - 1) (Nat.le_refl _) (by omega)
    have := GP_le hW hH l l2 l3
    have := h1 _ (un_lt hW l l2)
    omega
  · obtain ⟨S, hS, e⟩ := h2
    rcases hH.2.1 S (by omega) with k1 | ⟨k1, k2, l, k3, k4, k5, k6⟩
    · omega
    · have := FP_le hW hF l (2 ^ n - 1) (by omega) k4 k5 (sub _ (un_lt hW l k4))
      omega
