/-! Out of whole's part 50.law, by wip/p46/extract.py. -/
theorem BL_sorted (V : Nat → Int32) : (BL V).Pairwise (· < ·) := List.Pairwise.filter _ List.pairwise_lt_range
theorem BL_mono {V : Nat → Int32} {p q : Nat} (hpq : p < q) (hq : q < (BL V).length) : (BL V).getD p 0 < (BL V).getD q 0 := by
  have h := List.pairwise_iff_getElem.1 (BL_sorted V) p q (by omega) hq hpq
  rw [List.getD_eq_getElem?_getD, List.getD_eq_getElem?_getD, List.getElem?_eq_getElem hq, List.getElem?_eq_getElem (by omega)]
  exact h
/-- where the p-th base stands; behind the last: 256 -/
def ps (V : Nat → Int32) (p : Nat) : Nat := if p < (BL V).length then (BL V).getD p 0 else 256
theorem ps_gap {V : Nat → Int32} {p k : Nat} (hk : k < ps V p) (h : p = 0 ∨ ps V (p - 1) < k) : V k = NO := by
  have hk2 : k < 256 := by
    unfold ps at hk
    split at hk
    · rename_i hp
      have := (BL_at hp).1
      omega
    · exact hk
  apply Decidable.byContradiction
  intro hV
  obtain ⟨q, hq, e⟩ := BL_ix (BL_mem.2 ⟨hk2, hV⟩)
  have h1 : q < p := by
    apply Nat.lt_of_not_le
    intro hpq
    have hp : p < (BL V).length := by omega
    unfold ps at hk
    rw [if_pos hp] at hk
    by_cases e2 : p = q
    · rw [e2] at hk
      omega
    · have := BL_mono (show p < q by omega) hq
      omega
  rcases h with h | h
  · omega
  · unfold ps at h
    by_cases hp : p - 1 < (BL V).length
    · rw [if_pos hp] at h
      by_cases e2 : q = p - 1
      · rw [e2] at e
        omega
      · have := BL_mono (show q < p - 1 by omega) hp
        omega
    · rw [if_neg hp] at h
      omega
theorem ps_skip {V : Nat → Int32} {α : Type} {Q : Nat → α → Prop} (hs : ∀ k x, k < 256 → V k = NO → Q k x → Q (k + 1) x) {x : α} {j : Nat} (hj : j ≤ 256) : ∀ (d i : Nat), i + d = j → (∀ k, i ≤ k → k < j → V k = NO) → Q i x → Q j x
  | 0, i, e, _, h => by
    rw [Nat.add_zero] at e
    rw [← e]
    exact h
  | d + 1, i, e, hN, h => ps_skip hs hj d (i + 1) (by omega) (fun k h1 h2 => hN k (by omega) h2) (hs i x (by omega) (hN i (Nat.le_refl _) (by omega)) h)
/-- a loop over the bases, by what holds at each set -/
theorem wp_lpB {σ ρ α : Type} {b : σ → Option (σ ⊕ ρ)} {R : ρ → Prop} (V : Nat → Int32) (enc : Nat → α → σ) (Q : Nat → α → Prop) {x0 : α} (hl : (BL V).length ≤ 70) (h0 : Q 0 x0)
    (hk : ∀ k x, k < 256 → V k = NO → Q k x → Q (k + 1) x)
    (hs : ∀ p x, p < (BL V).length → Q ((BL V).getD p 0) x → wp (b (enc p x)) (lq (fun s => ∃ y, s = enc (p + 1) y ∧ Q ((BL V).getD p 0 + 1) y) R))
    (he : ∀ x, Q 256 x → wp (b (enc (BL V).length x)) (lq (fun _ => False) R)) : wp (lp b o_N (enc 0 x0)) R := by
  have psle : ∀ p, ps V p ≤ 256 := fun p => by
    unfold ps
    split
    · rename_i hp
      have := (BL_at hp).1
      omega
    · exact Nat.le_refl _
  refine wp_lp (fun p s => ∃ x, s = enc p x ∧ Q (ps V p) x) 0 (BL V).length (Nat.zero_le _) (by omega) ⟨x0, rfl, ps_skip (V := V) hk (psle 0) (ps V 0) 0 (by omega) (fun k _ h2 => ps_gap h2 (Or.inl rfl)) h0⟩ ?_ ?_
  · rintro p _ hp ⟨x, rfl, hQ⟩
    have e : ps V p = (BL V).getD p 0 := if_pos hp
    rw [e] at hQ
    refine wp_mono (hs p x hp hQ) ?_
    intro q hq
    cases q with
    | inr r => exact hq
    | inl s =>
      obtain ⟨y, rfl, hy⟩ := hq
      refine ⟨y, rfl, ?_⟩
      have hle : (BL V).getD p 0 + 1 ≤ ps V (p + 1) := by
        unfold ps
        split
        · rename_i hp2
          exact BL_mono (Nat.lt_succ_self p) hp2
        · exact (BL_at hp).1
      refine ps_skip (V := V) hk (psle (p + 1)) (ps V (p + 1) - ((BL V).getD p 0 + 1)) ((BL V).getD p 0 + 1) (by omega) (fun k h1 h2 => ps_gap h2 (Or.inr ?_)) hy
      rw [Nat.add_sub_cancel, e]
      exact h1
  · rintro _ ⟨x, rfl, hQ⟩
    have e : ps V (BL V).length = 256 := if_neg (Nat.lt_irrefl _)
    rw [e] at hQ
    exact he x hQ
/-- fault number c: A, B, i -/
def flt (T : Nat → Int32) (c : Nat) : Bool := decide (T (c / 2048) ≠ NO) && (decide (T (c / 8 % 256) ≠ NO) && (((c / 2048).testBit (c % 8) && !(c / 8 % 256).testBit (c % 8)) && ((List.range 8).find? (good T (c / 2048) (c / 8 % 256) (c % 8))).isNone))
theorem flt_abi {a b i : Nat} (ha : a < 256) (hb : b < 256) (hi : i < 8) : (2048 * a + 8 * b + i) / 2048 = a ∧ (2048 * a + 8 * b + i) / 8 % 256 = b ∧ (2048 * a + 8 * b + i) % 8 = i := by omega
theorem flt_at {T : Nat → Int32} {a b i : Nat} (ha : a < 256) (hb : b < 256) (hi : i < 8) : flt T (2048 * a + 8 * b + i) = (decide (T a ≠ NO) && (decide (T b ≠ NO) && ((a.testBit i && !b.testBit i) && ((List.range 8).find? (good T a b i)).isNone))) := by
  obtain ⟨e1, e2, e3⟩ := flt_abi ha hb hi
  unfold flt
  rw [e1, e2, e3]
theorem flt_cong {T U : Nat → Int32} (h : ∀ k, k < 256 → T k = U k) {c : Nat} (hc : c < 524288) : flt T c = flt U c := by
  unfold flt
  rw [h (c / 2048) (by omega), h (c / 8 % 256) (by omega), good_cong h (by omega) (by omega) (by omega)]
theorem fln_gap {p : Nat → Bool} : ∀ (d x y : Nat), x + d = y → (∀ c, x ≤ c → c < y → p c = false) → fln p y = fln p x
  | 0, x, y, e, _ => by rw [← e, Nat.add_zero]
  | d + 1, x, y, e, h => by
    rw [← fln_gap d x (x + d) rfl (fun c h1 h2 => h c h1 (by omega)), ← e, show x + (d + 1) = x + d + 1 by omega, fln_succ, h (x + d) (by omega) (by omega)]
    rfl
theorem fln_mono {p : Nat → Bool} : ∀ (d x y : Nat), x + d = y → fln p x ≤ fln p y
  | 0, x, y, e => by rw [← e, Nat.add_zero]; exact Nat.le_refl _
  | d + 1, x, y, e => by
    have := fln_mono (p := p) d x (x + d) rfl
    rw [← e, show x + (d + 1) = x + d + 1 by omega, fln_succ]
    split <;> omega
theorem fln_cong {p q : Nat → Bool} : ∀ (N : Nat), (∀ c, c < N → p c = q c) → fln p N = fln q N
  | 0, _ => rfl
  | N + 1, h => by
    rw [fln_succ, fln_succ, fln_cong N (fun c hc => h c (by omega)), h N (by omega)]
theorem flt_noA {T : Nat → Int32} {a : Nat} (h : T a = NO) : fln (flt T) (2048 * (a + 1)) = fln (flt T) (2048 * a) := fln_gap 2048 _ _ (by omega) (fun c h1 h2 => by
  unfold flt
  rw [show c / 2048 = a by omega, h]
  rfl)
theorem flt_noB {T : Nat → Int32} {a b : Nat} (ha : a < 256) (hb : b < 256) (h : T b = NO) : fln (flt T) (2048 * a + 8 * (b + 1)) = fln (flt T) (2048 * a + 8 * b) := fln_gap 8 _ _ (by omega) (fun c h1 h2 => by
  unfold flt
  rw [show c / 8 % 256 = b by omega, h]
  simp)
/-- what is found: the fault w, or that there are not so many -/
def fnd (T : Nat → Int32) (w : Nat) (c : Nat) : Prop := c < 524288 ∧ flt T c = true ∧ fln (flt T) c = w
def ot (I J : ai_I) (x : Nat) : Prop := ∀ c, ¬ c = x → J c = I c
theorem fndE_0 {T : Nat → Int32} {a b i : Nat} : (0 ≤ fndE ((List.range 8).find? (good T a b i))) = (((List.range 8).find? (good T a b i)).isNone = false) := by
  cases h : (List.range 8).find? (good T a b i) with
  | none => exact propext ⟨fun h => absurd h (by decide), fun h => by cases h⟩
  | some j =>
    have hj : j < 8 := List.mem_range.1 (List.mem_of_find?_eq_some h)
    exact propext ⟨fun _ => rfl, fun _ => nI_pos' (by omega)⟩
theorem c_33 {I : ai_I} {c a b w m : Nat} {L : ai_G} (hk : (Gc L).1 c = 13) (hn : (Gc L).2.1 c = 256) (hc : ¬ c = 55) (ha : a < 256) (hb : b < 256) (hw : w < 2147483648) (hm : m = fln (flt (I c)) (2048 * a + 8 * b)) (hmw : m ≤ w) : wp (m_22 55 c (nI a) (nI b) (nI m) (nI w) I (Gc L)) (fun q => ot I q.2 55 ∧ ((∃ i, i < 8 ∧ fnd (I c) w (2048 * a + 8 * b + i) ∧ q.1 = nI (w + 1) ∧ q.2 55 0 = nI a ∧ q.2 55 1 = nI b ∧ q.2 55 2 = nI i) ∨ (q.1 = nI (fln (flt (I c)) (2048 * a + 8 * (b + 1))) ∧ fln (flt (I c)) (2048 * a + 8 * (b + 1)) ≤ w))) := by
  have hml : fln (flt (I c)) (2048 * a + 8 * b) ≤ 524288 := Nat.le_trans (fln_le _ _) (by omega)
  unfold m_22
  rw [gi hk hn ha (by decide), o_g_t, gi hk hn hb (by decide), o_g_t, i_cl (by omega), i_cl (by omega)]
  split
  · rename_i hA
    simp (disch := omega) only [o_b1_s, o_b2_s, o_b3_s, o_b4_s, o_s1_s, o_s2_l, o_s2_r, o_g_t, i_add, i_mul, i_sub, i_and, i_or, i_xor, i_sd, i_shl, Nat.one_mul, i_eq, i_lt, i_le, i_n0, i_0le, i_e0, i_0lt, i_le0, i_cl, bz_0, wp_s, lq_l, lq_r, if_true, if_false, ite_not, true_and, and_true]
    have e : fln (flt (I c)) (2048 * a + 8 * (b + 1)) = fln (flt (I c)) (2048 * a + 8 * b) := fln_gap 8 _ _ (by omega) (fun q h1 h2 => by
      unfold flt
      rw [show q / 2048 = a by omega, hA]
      rfl)
    exact ⟨fun _ _ => rfl, Or.inr ⟨by rw [e, hm], by omega⟩⟩
  · rename_i hA
    split
    · rename_i hB
      simp (disch := omega) only [o_b1_s, o_b2_s, o_b3_s, o_b4_s, o_s1_s, o_s2_l, o_s2_r, o_g_t, i_add, i_mul, i_sub, i_and, i_or, i_xor, i_sd, i_shl, Nat.one_mul, i_eq, i_lt, i_le, i_n0, i_0le, i_e0, i_0lt, i_le0, i_cl, bz_0, wp_s, lq_l, lq_r, if_true, if_false, ite_not, true_and, and_true]
      have e := flt_noB (T := I c) ha hb hB
      exact ⟨fun _ _ => rfl, Or.inr ⟨by rw [e, hm], by omega⟩⟩
    · rename_i hB
      simp (disch := omega) only [o_b1_s, o_b2_s, o_b3_s, o_b4_s, o_s1_s, o_s2_l, o_s2_r, o_g_t, i_add, i_mul, i_sub, i_and, i_or, i_xor, i_sd, i_shl, Nat.one_mul, i_eq, i_lt, i_le, i_n0, i_0le, i_e0, i_0lt, i_le0, i_cl, bz_0, wp_s, lq_l, lq_r, if_true, if_false, ite_not, true_and, and_true]
      refine wp_s1 (wp_lp (fun i s => ∃ J, s = (nI (fln (flt (I c)) (2048 * a + 8 * b + i)), nI i, J) ∧ ot I J 55 ∧ ((fln (flt (I c)) (2048 * a + 8 * b + i) ≤ w) ∨ ∃ j, j < i ∧ fln (flt (I c)) (2048 * a + 8 * b + i) = w + 1 ∧ fnd (I c) w (2048 * a + 8 * b + j) ∧ J 55 0 = nI a ∧ J 55 1 = nI b ∧ J 55 2 = nI j)) 0 8 (Nat.zero_le _) (by omega) ⟨I, by rw [hm]; rfl, fun _ _ => rfl, Or.inl (by rw [Nat.add_zero]; omega)⟩ ?_ ?_)
      · rintro i _ hi ⟨J, rfl, hJ, hP⟩
        have hle : fln (flt (I c)) (2048 * a + 8 * b + i) ≤ 524288 := Nat.le_trans (fln_le _ _) (by omega)
        have hsd := sd_lt (b := b) ha
        have hf := flt_at (T := I c) ha hb hi
        have hs := fln_succ (flt (I c)) (2048 * a + 8 * b + i)
        have hJc := hJ c hc
        rcases hP with hP | ⟨j, hj, h1, h2, h3⟩
        · simp (disch := omega) only [if_pos, if_neg, o_b1_s, o_b2_s, o_b3_s, o_b4_s, o_s1_s, o_s2_l, o_s2_r, o_g_t, i_add, i_mul, i_sub, i_and, i_or, i_xor, i_sd, i_shl, Nat.one_mul, i_eq, i_lt, i_le, i_n0, i_0le, i_e0, i_0lt, i_le0, i_cl, bz_0, wp_s, lq_l, lq_r, if_true, if_false, ite_not, true_and, and_true, m_22_b33, c_183, sd_bit, c_34 hk hn ha hb hi, hJc, fndE_0]
          split
          · rename_i c1
            rw [decide_eq_true hA, decide_eq_true hB, c1, Bool.true_and, Bool.true_and, Bool.true_and] at hf
            split
            · rename_i c2
              rw [c2] at hf
              simp (disch := omega) only [o_b1_s, o_b2_s, o_b3_s, o_b4_s, o_s1_s, o_s2_l, o_s2_r, o_g_t, i_add, i_mul, i_sub, i_and, i_or, i_xor, i_sd, i_shl, Nat.one_mul, i_eq, i_lt, i_le, i_n0, i_0le, i_e0, i_0lt, i_le0, i_cl, bz_0, wp_s, lq_l, lq_r, if_true, if_false, ite_not, true_and, and_true]
              rw [show 2048 * a + 8 * b + (i + 1) = 2048 * a + 8 * b + i + 1 from rfl, hs, hf]
              exact ⟨J, rfl, hJ, Or.inl hP⟩
            · rename_i c2
              have c3 : ((List.range 8).find? (good (I c) a b i)).isNone = true := by
                cases h : ((List.range 8).find? (good (I c) a b i)).isNone
                · exact absurd h c2
                · rfl
              rw [c3] at hf
              rw [hf, if_pos rfl] at hs
              simp (disch := omega) only [o_b1_s, o_b2_s, o_b3_s, o_b4_s, o_s1_s, o_s2_l, o_s2_r, o_g_t, i_add, i_mul, i_sub, i_and, i_or, i_xor, i_sd, i_shl, Nat.one_mul, i_eq, i_lt, i_le, i_n0, i_0le, i_e0, i_0lt, i_le0, i_cl, bz_0, wp_s, lq_l, lq_r, if_true, if_false, ite_not, true_and, and_true]
              rw [show 2048 * a + 8 * b + (i + 1) = 2048 * a + 8 * b + i + 1 from rfl, hs]
              refine ⟨_, rfl, fun q hq => by rw [up_ne hq, up_ne hq, up_ne hq]; exact hJ q hq, ?_⟩
              by_cases e : fln (flt (I c)) (2048 * a + 8 * b + i) + 1 ≤ w
              · exact Or.inl e
              · refine Or.inr ⟨i, by omega, by omega, ⟨by omega, hf, by omega⟩, ?_, ?_, ?_⟩
                · rw [up_eq, up_ne (by decide), up_eq, up_ne (by decide), up_eq, up_eq]
                · rw [up_eq, up_ne (by decide), up_eq, up_eq]
                · rw [up_eq, up_eq]
          · rename_i c1
            have c1f : (a.testBit i && !b.testBit i) = false := by
              cases h : (a.testBit i && !b.testBit i)
              · rfl
              · exact absurd h c1
            rw [c1f, Bool.false_and, Bool.and_false, Bool.and_false] at hf
            rw [hf] at hs
            simp (disch := omega) only [o_b1_s, o_b2_s, o_b3_s, o_b4_s, o_s1_s, o_s2_l, o_s2_r, o_g_t, i_add, i_mul, i_sub, i_and, i_or, i_xor, i_sd, i_shl, Nat.one_mul, i_eq, i_lt, i_le, i_n0, i_0le, i_e0, i_0lt, i_le0, i_cl, bz_0, wp_s, lq_l, lq_r, if_true, if_false, ite_not, true_and, and_true]
            rw [show 2048 * a + 8 * b + (i + 1) = 2048 * a + 8 * b + i + 1 from rfl, hs]
            exact ⟨J, rfl, hJ, Or.inl hP⟩
        · simp (disch := omega) only [if_pos, if_neg, o_b1_s, o_b2_s, o_b3_s, o_b4_s, o_s1_s, o_s2_l, o_s2_r, o_g_t, i_add, i_mul, i_sub, i_and, i_or, i_xor, i_sd, i_shl, Nat.one_mul, i_eq, i_lt, i_le, i_n0, i_0le, i_e0, i_0lt, i_le0, i_cl, bz_0, wp_s, lq_l, lq_r, if_true, if_false, ite_not, true_and, and_true, m_22_b33, m_22_x33_93]
          exact ⟨hJ, Or.inl ⟨j, by omega, h2, by rw [h1], h3⟩⟩
      · rintro _ ⟨J, rfl, hJ, hP⟩
        simp (disch := omega) only [if_pos, if_neg, o_b1_s, o_b2_s, o_b3_s, o_b4_s, o_s1_s, o_s2_l, o_s2_r, o_g_t, i_add, i_mul, i_sub, i_and, i_or, i_xor, i_sd, i_shl, Nat.one_mul, i_eq, i_lt, i_le, i_n0, i_0le, i_e0, i_0lt, i_le0, i_cl, bz_0, wp_s, lq_l, lq_r, if_true, if_false, ite_not, true_and, and_true, m_22_b33, m_22_x33_93]
        refine ⟨hJ, ?_⟩
        rcases hP with hP | ⟨j, hj, h1, h2, h3⟩
        · exact Or.inr ⟨rfl, hP⟩
        · exact Or.inl ⟨j, hj, h2, by rw [h1], h3⟩
