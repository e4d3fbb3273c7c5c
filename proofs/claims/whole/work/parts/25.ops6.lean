/-! The law's exchange: call exchange. -/
/-- the first place that does, or -2 -/
def fndE (o : Option Nat) : Int32 := match o with
  | some j => nI j
  | none => -2
theorem lp_find {b : Int32 → Option (Int32 ⊕ (Int32 ⊕ Unit))} (good : Nat → Bool) (N : Nat) (hN : N < 2000000) (hs : ∀ i, i < N → b (nI i) = some (if good i = true then .inr (.inl (nI i)) else .inl (nI (i + 1)))) (he : b (nI N) = some (.inr (.inr ()))) : lp b o_N (nI 0) = some (match (List.range N).find? good with
    | some j => .inl (nI j)
    | none => .inr ()) := by
  have h := lp_fs_o (b := b) (fun i (_ : Unit) => nI i) (fun i a => if good i = true then .inr (.inl (nI i)) else .inl a) (fun _ => .inr ()) (fun _ _ => True) N () (fun i a hi _ => by
    by_cases hb : good i = true
    · refine ⟨fun a2 e => ?_, fun r e => ?_⟩
      · rw [if_pos hb] at e
        cases e
      · rw [if_pos hb] at e
        cases e
        rw [hs i hi, if_pos hb]
    · refine ⟨fun a2 e => ⟨trivial, ?_⟩, fun r e => ?_⟩
      · rw [hs i hi, if_neg hb]
      · rw [if_neg hb] at e
        cases e) (fun _ _ => he) trivial hN
  rw [h]
  have key : ∀ l : List Nat, (match ls (ρ := Int32 ⊕ Unit) (fun i a => if good i = true then .inr (.inl (nI i)) else .inl a) l () with
      | .inl _ => .inr ()
      | .inr r => r) = (match l.find? good with
      | some j => .inl (nI j)
      | none => .inr () : Int32 ⊕ Unit) := by
    intro l
    induction l with
    | nil => rfl
    | cons x l ih =>
      unfold ls
      by_cases hb : good x = true
      · rw [if_pos hb, List.find?_cons_of_pos hb]
      · rw [if_neg hb, List.find?_cons_of_neg hb]
        exact ih
  rw [← key]
  cases ls (ρ := Int32 ⊕ Unit) (fun i a => if good i = true then .inr (.inl (nI i)) else .inl a) (List.range N) () <;> rfl
theorem sd_lt {a b : Nat} (ha : a < 256) : sd a b < 256 := bit_xor_lt ha (bit_and_lt ha)
theorem or_xor : ∀ i, i < 8 → ∀ j, j < 8 → ¬ i = j → 2 ^ i ||| 2 ^ j = 2 ^ i ^^^ 2 ^ j := by decide
/-- j does for a, b, i -/
def good (T : Nat → Int32) (a b i j : Nat) : Bool := (b.testBit j && !a.testBit j) && (decide (T (a ^^^ (2 ^ i ||| 2 ^ j)) ≠ NO) && (decide (T (b ^^^ (2 ^ i ||| 2 ^ j)) ≠ NO) && !decide (T (a ^^^ (2 ^ i ||| 2 ^ j)) + T (b ^^^ (2 ^ i ||| 2 ^ j)) < T a + T b)))
theorem c_34 {I : ai_I} {L c a b i : Nat} (hk : (Gc L).1 c = 13) (hn : (Gc L).2.1 c = 256) (ha : a < 256) (hb : b < 256) (hi : i < 8) : m_34 c (nI a) (nI b) (nI i) I (Gc L) = some (fndE ((List.range 8).find? (good (I c) a b i))) := by
  unfold m_34
  rw [gi hk hn ha (by decide), o_g_t, gi hk hn hb (by decide), o_g_t, o_b1_s, i_sd, o_b1_s, i_cl (by omega), i_cl (by omega), lp_find (good (I c) a b i) 8 (by decide) ?_ ?_]
  · cases (List.range 8).find? (good (I c) a b i) <;> rfl
  · intro j hj
    have h1 : 2 ^ i ||| 2 ^ j < 256 := bit_or_lt (p2_lt hi) (p2_lt hj)
    have h2 := bit_xor_lt ha h1
    have h3 := bit_xor_lt hb h1
    unfold m_34_b19
    rw [q_leF (by decide) hj, c_183 (sd_lt hb) (by omega), o_b1_s, q_bz, i_shl (by decide) (by omega), i_shl (by decide) (by omega), Nat.one_mul, Nat.one_mul, i_or, o_b1_s, i_xor, i_xor, gi hk hn h2 (by decide), o_g_t, i_cl (by omega), o_b1_s, gi hk hn h3 (by decide), o_g_t, i_cl (by omega), o_b1_s, i_add, o_b1_s, sd_bit]
    unfold good
    by_cases c1 : (b.testBit j && !a.testBit j) = true
    · rw [if_pos c1]
      by_cases c2 : I c (a ^^^ (2 ^ i ||| 2 ^ j)) = NO
      · rw [if_pos c2, if_neg (by simp [c2])]
      · rw [if_neg c2]
        by_cases c3 : I c (b ^^^ (2 ^ i ||| 2 ^ j)) = NO
        · rw [if_pos c3, if_neg (by simp [c3])]
        · rw [if_neg c3]
          by_cases c4 : I c (a ^^^ (2 ^ i ||| 2 ^ j)) + I c (b ^^^ (2 ^ i ||| 2 ^ j)) < I c a + I c b
          · rw [if_pos c4, if_neg (by simp [c4])]
          · rw [if_neg c4, if_pos (by rw [c1, decide_eq_true c2, decide_eq_true c3, decide_eq_false c4]; rfl)]
    · rw [if_neg c1, if_neg (fun h4 => c1 (Bool.and_eq_true _ _ ▸ h4).1)]
  · unfold m_34_b19
    rw [q_leT (by decide) (Nat.le_refl _)]
theorem s_245 {I : ai_I} {t L a b i : Nat} (ha : a < 256) (hb : b < 256) (hi : i < 8) (hai : a.testBit i = true) : m_245 75 (nI a) (nI b) (nI i) I (Rc t) (Gc L) = some (fndE ((List.range 8).find? (good (I 83) a b i))) := by
  unfold m_245
  rw [lp_find (good (I 83) a b i) 8 (by decide) ?_ ?_]
  · cases (List.range 8).find? (good (I 83) a b i) <;> rfl
  · intro j hj
    unfold m_245_b3
    rw [q_leF (by decide) hj, s_192 hb (by omega), o_b1_s, q_bz, s_192 ha (by omega), o_b1_s, q_bz, i_add, o_b1_s]
    unfold good
    by_cases c1 : b.testBit j = true
    · by_cases c0 : a.testBit j = true
      · rw [if_pos c1, if_pos c0, if_neg (by simp [c0])]
      · have hij : ¬ i = j := fun h => c0 (by rw [← h]; exact hai)
        have h1 : 2 ^ i ||| 2 ^ j < 256 := bit_or_lt (p2_lt hi) (p2_lt hj)
        have h2 := bit_xor_lt ha h1
        have h3 := bit_xor_lt hb h1
        rw [if_pos c1, if_neg c0, i_shl (by decide) (by omega), i_shl (by decide) (by omega), Nat.one_mul, Nat.one_mul, i_xor, i_xor, Nat.xor_assoc, ← or_xor i hi j hj hij, o_b1_s, i_xor, i_xor, Nat.xor_assoc, ← or_xor i hi j hj hij, o_b1_s, r_75_20, g_83 h2, o_g_t, i_cl (by omega), g_83 h3, o_g_t, i_cl (by omega), o_g_t, o_g_t, g_83 ha, o_g_t, g_83 hb, o_g_t, i_cl (by omega), i_cl (by omega)]
        by_cases c2 : I 83 (a ^^^ (2 ^ i ||| 2 ^ j)) = NO
        · rw [if_pos c2, if_neg (by simp [c2])]
        · rw [if_neg c2]
          by_cases c3 : I 83 (b ^^^ (2 ^ i ||| 2 ^ j)) = NO
          · rw [if_pos c3, if_neg (by simp [c3])]
          · rw [if_neg c3]
            by_cases c4 : I 83 (a ^^^ (2 ^ i ||| 2 ^ j)) + I 83 (b ^^^ (2 ^ i ||| 2 ^ j)) < I 83 a + I 83 b
            · rw [if_pos c4, if_neg (by simp [c4])]
            · rw [if_neg c4, if_pos (by rw [c1, Bool.eq_false_iff.2 c0, decide_eq_true c2, decide_eq_true c3, decide_eq_false c4]; rfl)]
    · rw [if_neg c1, if_neg (by simp [c1])]
  · unfold m_245_b3
    rw [q_leT (by decide) (Nat.le_refl _)]
/-- the reference lays the values (w 0), or 0 for each base (w 1), aside -/
def wrow (V : Nat → Int32) (w k : Nat) : Int32 := if V k ≠ NO then (if w = 0 then V k else nI 0) else NO
theorem s_244 {I : ai_I} {t L s w : Nat} (hs : s < 12) (hw : w < 2) : ∃ I2, m_244 75 (nI s) (nI w) I (Rc t) (Gc L) = some I2 ∧ (∀ c, ¬ c = 83 → I2 c = I c) ∧ ∀ k, k < 256 → I2 83 k = wrow (FV I s) w k := by
  unfold m_244
  obtain ⟨I1, ⟨h1, h2⟩, h3⟩ := lp_ex (b := fun q => m_244_b2 75 (nI s) (nI w) (Rc t) (Gc L) q.1 q.2) (fun k (J : ai_I) => (nI k, J)) (fun J => J) (fun k J => (∀ c, ¬ c = 83 → J c = I c) ∧ ∀ j, j < k → J 83 j = wrow (FV I s) w j) 256 (fun i J hi hJ => by
    obtain ⟨f1, f2⟩ := hJ
    have hF : FV J s = FV I s := by
      unfold FV
      rw [f1 76 (by decide)]
    refine ⟨va_up J 83 (va_up (J 83) i (wrow (FV I s) w i)), ⟨fun c hc => by rw [up_ne hc]; exact f1 c hc, fun j hj => ?_⟩, ?_⟩
    · rw [up_eq]
      by_cases h : j = i
      · rw [h, up_eq]
      · rw [up_ne h]
        exact f2 j (by omega)
    · show m_244_b2 75 (nI s) (nI w) (Rc t) (Gc L) (nI i) J = _
      unfold m_244_b2 m_244_j42
      rw [q_leF (by omega) hi, s_199 hs hi, o_b1_s, q_bz, q_e0 (by omega), s_198 hs hi, o_b1_s, r_75_20, g_83 hi, o_g_t, o_g_t, o_g_t, i_cl (by omega), i_add, o_b1_s, o_b1_s, o_b1_s, o_b1_s, hF]
      unfold wrow
      by_cases hV : FV I s i ≠ NO
      · rw [if_pos hV, if_pos hV]
        by_cases h0 : w = 0
        · rw [if_pos h0, if_pos h0]
        · rw [if_neg h0, if_neg h0]
      · rw [if_neg hV, if_neg hV, o_b1_s, o_b1_s]) (fun J hJ => by
    show m_244_b2 75 (nI s) (nI w) (Rc t) (Gc L) (nI 256) J = _
    unfold m_244_b2
    rw [q_leT (by decide) (Nat.le_refl _)]) 256 0 I o_N (by omega) ⟨fun _ _ => rfl, fun j hj => absurd hj (Nat.not_lt_zero _)⟩ (show 256 < 2000000 by decide)
  refine ⟨I1, ?_, h1, h2⟩
  show o_s1 (lp (fun q => m_244_b2 75 (nI s) (nI w) (Rc t) (Gc L) q.1 q.2) o_N (nI 0, I)) _ = _
  rw [h3, o_s1_s]
  rfl
theorem SAME_83 {I I1 : ai_I} (h : ∀ c, ¬ c = 83 → I1 c = I c) : SAME I I1 := ⟨fun c hc => h c (by omega), fun j _ => by rw [h 76 (by decide)], h 77 (by decide), by rw [h 75 (by decide)], by rw [h 75 (by decide)], h 1999 (by decide)⟩
theorem find_cong {p q : Nat → Bool} : ∀ l : List Nat, (∀ x ∈ l, p x = q x) → l.find? p = l.find? q
  | [], _ => rfl
  | x :: l, h => by
    have hx := h x (List.mem_cons_self ..)
    have ih := find_cong l (fun y hy => h y (List.mem_cons_of_mem _ hy))
    by_cases hp : p x = true
    · rw [List.find?_cons_of_pos hp, List.find?_cons_of_pos (by rw [← hx]; exact hp)]
    · rw [List.find?_cons_of_neg hp, List.find?_cons_of_neg (by rw [← hx]; exact hp), ih]
theorem good_e {T U : Nat → Int32} {a b i x : Nat} (h : ∀ k, k < 256 → T k = U k) (ha : a < 256) (hb : b < 256) (hi : i < 8) (hx : x < 8) : good T a b i x = good U a b i x := by
  have h1 : 2 ^ i ||| 2 ^ x < 256 := bit_or_lt (p2_lt hi) (p2_lt hx)
  have e1 := h _ (bit_xor_lt ha h1)
  have e2 := h _ (bit_xor_lt hb h1)
  unfold good
  rw [e1, e2, h a ha, h b hb]
theorem good_cong {T U : Nat → Int32} {a b i : Nat} (h : ∀ k, k < 256 → T k = U k) (ha : a < 256) (hb : b < 256) (hi : i < 8) : (List.range 8).find? (good T a b i) = (List.range 8).find? (good U a b i) := find_cong _ (fun x hx => good_e h ha hb hi (List.mem_range.1 hx))
theorem op_exchange {I : ai_I} {t L : Nat} (h : ST I) (s x y z : Int32) : OPb I (m_146 1 s x y z I (Rc t) (Gc L)) (m_249 75 s x y z I (Rc t) (Gc L)) := by
  unfold m_146 m_249
  rw [r_1_0, k_2, o_g_t, s_200, o_b1_s, q_bz]
  rcases x_cases s (n := 3) (by decide) with ⟨k, hk, rfl⟩ | hs
  · rw [c_96 (by omega), o_b1_s, if_neg (by omega), if_pos (nI_in03 hk)]
    obtain ⟨n, r, hW, hC, hI, -⟩ := h.1 k (by omega)
    have hn := hW.2.1
    have hn2 := hW.1
    have hv := vc_s (s := k) (by omega)
    rw [v_kd hv, o_g_t]
    rcases x_cases x (n := 255) (by decide) with ⟨a, ha, rfl⟩ | hx
    · rw [c_122 hv hW hC (by omega), s_199 (by omega) (by omega), o_b1_s, o_b1_s, q_bz, q_bz]
      by_cases hA : FV I k a ≠ NO
      · rw [if_pos hA, if_pos hA]
        rcases x_cases y (n := 255) (by decide) with ⟨b, hb, rfl⟩ | hy
        · rw [c_122 hv hW hC (by omega), s_199 (by omega) (by omega), o_b1_s, o_b1_s, q_bz, q_bz]
          by_cases hB : FV I k b ≠ NO
          · rw [if_pos hB, if_pos hB, c_120' hn (by omega) hC.1, s_202 (by omega) hn (by omega) hI, o_b1_s, o_b1_s, q_bz, q_bz]
            rcases x_cases z (n := n - 1) (by omega) with ⟨i, hi, rfl⟩ | hz
            · have hin : nI 0 ≤ nI i ∧ nI i ≤ nI (n - 1) := ⟨nI_le (by omega) (by omega), nI_le hi (by omega)⟩
              rw [if_pos hin, if_pos hin, i_sd, c_183 (sd_lt (by omega)) (by omega), o_b1_s, q_bz, s_192 (by omega) (by omega), o_b1_s, q_bz, s_192 (by omega) (by omega), o_b1_s, q_bz, sd_bit]
              by_cases c1 : a.testBit i = true
              · by_cases c2 : b.testBit i = true
                · rw [if_neg (by simp [c2]), if_pos c1, if_pos c2]
                  exact ⟨_, I, rfl, rfl, SAME_rf⟩
                · obtain ⟨I2, h1, h2, h3⟩ := s_244 (I := I) (t := t) (L := L) (s := k) (w := 0) (by omega) (by decide)
                  rw [if_pos (by simp [c1, c2]), if_pos c1, if_neg c2, h1, o_b1_s, s_245 (by omega) (by omega) (by omega) c1, o_b1_s, v_rv hv, c_34 (c := 6 + 4 * k + 1) ?_ ?_ (by omega) (by omega) (by omega), o_b1_s]
                  · refine ⟨_, I2, rfl, ?_, SAME_83 h2⟩
                    have e : (List.range 8).find? (good (I2 83) a b i) = (List.range 8).find? (good (I (6 + 4 * k + 1)) a b i) := good_cong (fun j hj => by
                      rw [h3 j hj, hC.2.2.2.1 j hj]
                      unfold wrow
                      by_cases hV : FV I k j ≠ NO
                      · rw [if_pos hV, if_pos rfl]
                      · rw [if_neg hV]
                        exact (Decidable.of_not_not hV).symm) (by omega) (by omega) (by omega)
                    rw [e]
                  · have h5 := vc_all _ hv
                    show (if 6 + 4 * k + 1 = 1999 then 16 else kL.getD (6 + 4 * k + 1) 99) = 13
                    rw [if_neg (by omega)]
                    exact h5.2.1
                  · have h5 := vc_all _ hv
                    show (if 6 + 4 * k + 1 = 1999 then L else nL.getD (6 + 4 * k + 1) 0) = 256
                    rw [if_neg (by omega)]
                    exact h5.2.2.2.2.1
              · rw [if_neg (by simp [c1]), if_neg c1]
                exact ⟨_, I, rfl, rfl, SAME_rf⟩
            · rw [if_neg hz, if_neg hz]
              exact ⟨_, I, rfl, rfl, SAME_rf⟩
          · rw [if_neg hB, if_neg hB]
            exact ⟨_, I, rfl, rfl, SAME_rf⟩
        · rw [c_122o hW hC hy, s_199o hy, o_b1_s, o_b1_s, q_00, q_00]
          exact ⟨_, I, rfl, rfl, SAME_rf⟩
      · rw [if_neg hA, if_neg hA]
        exact ⟨_, I, rfl, rfl, SAME_rf⟩
    · rw [c_122o hW hC hx, s_199o hx, o_b1_s, o_b1_s, q_00, q_00]
      exact ⟨_, I, rfl, rfl, SAME_rf⟩
  · rw [c_96o hs, o_b1_s, if_pos rfl, if_neg hs]
    exact ⟨_, I, rfl, rfl, SAME_rf⟩
