/-! Widest stairs: what both come to; the reference's. -/
/-- a way of k steps from a to x whose sums are c at least -/
def RC (V S : Nat → Int32) (a : Nat) (c : Int32) : Nat → Nat → Prop
  | 0, x => x = a ∧ c ≤ S a
  | k + 1, x => ∃ y, RC V S a c k y ∧ x ∈ BL V ∧ nb y x ∧ c ≤ S x
theorem RC_mono {V S : Nat → Int32} {a : Nat} {c d : Int32} (h : d ≤ c) : ∀ {k x : Nat}, RC V S a c k x → RC V S a d k x
  | 0, x, h1 => ⟨h1.1, Int32.le_trans h h1.2⟩
  | k + 1, x, ⟨y, h1, h2, h3, h4⟩ => ⟨y, RC_mono h h1, h2, h3, Int32.le_trans h h4⟩
def wsn (V S : Nat → Int32) (a : Nat) (w : Nat → Int32) : Prop := ∀ x, x < 256 → w x = NO ∨ (x ∈ BL V ∧ (∃ k, RC V S a (w x) k x) ∧ ∃ z, z ∈ BL V ∧ w x = S z)
def wst2 (V S : Nat → Int32) (a : Nat) (w : Nat → Int32) : Prop := S a ≤ w a ∧ ∀ y, y ∈ BL V → ¬ w y = NO → ∀ x, x ∈ BL V → nb y x → mn (w y) (S x) ≤ w x
theorem le_mn {a b c : Int32} (h1 : c ≤ a) (h2 : c ≤ b) : c ≤ mn a b := by
  unfold mn
  split
  · exact h2
  · exact h1
theorem mn_l (a b : Int32) : mn a b ≤ a := by
  unfold mn
  split
  · rename_i h
    exact h
  · exact Int32.le_refl _
theorem mn_r (a b : Int32) : mn a b ≤ b := by
  unfold mn
  split
  · exact Int32.le_refl _
  · rename_i h
    exact Int32.le_of_lt (Int32.not_le.1 h)
theorem mx_l (a b : Int32) : a ≤ mx a b := by
  unfold mx
  split
  · rename_i h
    exact h
  · exact Int32.le_refl _
theorem mx_r (a b : Int32) : b ≤ mx a b := by
  unfold mx
  split
  · exact Int32.le_refl _
  · rename_i h
    exact Int32.le_of_lt (Int32.not_le.1 h)
theorem mx_le {a b c : Int32} (h1 : a ≤ c) (h2 : b ≤ c) : mx a b ≤ c := by
  unfold mx
  split
  · exact h2
  · exact h1
theorem mx_or (a b : Int32) : mx a b = a ∨ mx a b = b := by
  unfold mx
  split
  · exact Or.inr rfl
  · exact Or.inl rfl
theorem mn_or (a b : Int32) : mn a b = a ∨ mn a b = b := by
  unfold mn
  split
  · exact Or.inr rfl
  · exact Or.inl rfl
theorem NO_le (a : Int32) : NO ≤ a := Int32.minValue_le _
theorem wst_le {V S : Nat → Int32} {a : Nat} {w : Nat → Int32} {c : Int32} (h : wst2 V S a w) (ha : a ∈ BL V) (hc : ¬ c ≤ NO) : ∀ {k x : Nat}, RC V S a c k x → x ∈ BL V ∧ c ≤ w x
  | 0, x, h1 => by
    rw [h1.1]
    exact ⟨ha, Int32.le_trans h1.2 h.1⟩
  | k + 1, x, ⟨y, h1, h2, h3, h4⟩ => by
    obtain ⟨hy, h5⟩ := wst_le h ha hc h1
    have hy2 : ¬ w y = NO := fun h9 => hc (by rw [← h9]; exact h5)
    exact ⟨h2, Int32.le_trans (le_mn h5 h4) (h.2 y hy hy2 x h2 h3)⟩
theorem wid_le {V S : Nat → Int32} {a x : Nat} {w u : Nat → Int32} (hS : ∀ z, z ∈ BL V → ¬ S z ≤ NO) (ha : a ∈ BL V) (h1 : wsn V S a w) (h2 : wst2 V S a u) (hx : x < 256) : w x ≤ u x := by
  rcases h1 x hx with h | ⟨-, ⟨k, h⟩, z, hz, e⟩
  · rw [h]
    exact NO_le _
  · exact (wst_le h2 ha (by rw [e]; exact hS z hz) h).2
theorem wid_one {V S : Nat → Int32} {a x : Nat} {w u : Nat → Int32} (hS : ∀ z, z ∈ BL V → ¬ S z ≤ NO) (ha : a ∈ BL V) (h1 : wsn V S a w) (h2 : wst2 V S a w) (h3 : wsn V S a u) (h4 : wst2 V S a u) (hx : x < 256) : w x = u x := Int32.le_antisymm (wid_le hS ha h1 h4 hx) (wid_le hS ha h3 h2 hx)
theorem wsn_up {V S : Nat → Int32} {a x y : Nat} {w : Nat → Int32} (h : wsn V S a w) (hy : y < 256) (hyw : ¬ w y = NO) (hx : x ∈ BL V) (hn : nb y x) : (∃ k, RC V S a (mn (w y) (S x)) k x) ∧ ∃ z, z ∈ BL V ∧ mn (w y) (S x) = S z := by
  rcases h y hy with h9 | ⟨-, ⟨k, h1⟩, z, hz, e⟩
  · exact absurd h9 hyw
  · refine ⟨⟨k + 1, y, RC_mono (mn_l _ _) h1, hx, hn, mn_r _ _⟩, ?_⟩
    rcases mn_or (w y) (S x) with h2 | h2
    · exact ⟨z, hz, by rw [h2, e]⟩
    · exact ⟨x, hx, h2⟩
/-- how much is held up together -/
def cz (V S : Nat → Int32) (v : Int32) : Nat := ((BL V).filter (fun z => decide (S z ≤ v))).length
def ph (V S w : Nat → Int32) : Nat → Nat
  | 0 => 0
  | k + 1 => ph V S w k + cz V S (w k)
theorem cz_le {V S : Nat → Int32} (h : (BL V).length ≤ 70) (v : Int32) : cz V S v ≤ 70 := Nat.le_trans (List.length_filter_le _ _) h
theorem ph_le {V S w : Nat → Int32} (h : (BL V).length ≤ 70) : ∀ k, ph V S w k ≤ 70 * k
  | 0 => Nat.le_refl _
  | k + 1 => by
    have ih := ph_le (S := S) (w := w) h k
    have := cz_le (S := S) h (w k)
    rw [ph]
    omega
theorem cz_lt {V S : Nat → Int32} {u v : Int32} {z : Nat} (hz : z ∈ BL V) (hv : v = S z) (huv : u < v) : cz V S u < cz V S v := filter_lt hz (decide_eq_false (by rw [← hv]; exact Int32.not_le.2 huv)) (decide_eq_true (by rw [hv]; exact Int32.le_refl _)) (fun y _ hy => decide_eq_true (Int32.le_trans (of_decide_eq_true hy) (Int32.le_of_lt huv)))
theorem ph_up {V S w : Nat → Int32} {x : Nat} {v : Int32} (h : cz V S (w x) < cz V S v) : ∀ k, ph V S w k + (if x < k then 1 else 0) ≤ ph V S (va_up w x v) k
  | 0 => by
    rw [if_neg (Nat.not_lt_zero _)]
    exact Nat.le_refl _
  | k + 1 => by
    have ih := ph_up h k
    rw [ph, ph]
    by_cases e : x = k
    · rw [e, up_eq]
      rw [e] at ih h
      rw [if_neg (Nat.lt_irrefl _)] at ih
      rw [if_pos (Nat.lt_succ_self _)]
      omega
    · rw [up_ne (fun h9 => e h9.symm)]
      by_cases e2 : x < k
      · rw [if_pos e2] at ih
        rw [if_pos (by omega)]
        omega
      · rw [if_neg e2] at ih
        rw [if_neg (by omega)]
        omega
theorem mn_190 (a b : Int32) : m_190 a b = some (mn a b) := s_190 a b
theorem s_303 {I : ai_I} {t L s n r a : Nat} (hs : s < 4) (hW : WF n r (FV I s)) (hS : ∀ z, z ∈ BL (FV I s) → ¬ FV I s z + prs (RP I) z ≤ NO) (ha : a ∈ BL (FV I s)) : wp (m_303 75 (nI s) (nI a) I (Rc t) (Gc L)) (fun J => ot I J 88 ∧ wsn (FV I s) (fun z => FV I s z + prs (RP I) z) a (J 88) ∧ wst2 (FV I s) (fun z => FV I s z + prs (RP I) z) a (J 88)) := by
  have hl := BL_len hW
  have ha2 := (BL_mem.1 ha).1
  have hf : ∀ J : ai_I, ot I J 88 → FV J s = FV I s ∧ RP J = RP I := fun J hJ => ⟨by unfold FV; rw [hJ 76 (by decide)], by unfold RP; rw [hJ 76 (by decide)]⟩
  unfold m_303
  refine wp_s1 (wp_lp (fun i q => ∃ J, q = (nI i, J) ∧ ot I J 88 ∧ ∀ x, x < i → J 88 x = NO) 0 256 (Nat.zero_le _) (by omega) ⟨I, rfl, fun _ _ => rfl, fun x hx => absurd hx (Nat.not_lt_zero _)⟩ ?_ ?_)
  · rintro i _ hi ⟨J, rfl, hJ, hx⟩
    simp (disch := omega) only [if_pos, if_neg, o_b1_s, o_b2_s, o_b3_s, o_b4_s, o_s1_s, o_s2_l, o_s2_r, o_g_t, i_add, i_mul, i_sub, i_and, i_or, i_xor, i_sd, i_shl, Nat.one_mul, i_eq, i_lt, i_le, i_n0, i_0le, i_e0, i_0lt, i_le0, i_cl, bz_0, wp_s, lq_l, lq_r, if_true, if_false, ite_not, true_and, and_true, m_303_b2, r_75_27, g_88]
    refine ⟨_, rfl, fun q h1 => by rw [up_ne h1]; exact hJ q h1, fun x hx2 => ?_⟩
    rw [up_eq]
    by_cases e : x = i
    · rw [e, up_eq]
    · rw [up_ne e]
      exact hx x (by omega)
  · rintro _ ⟨J, rfl, hJ, hx⟩
    simp (disch := omega) only [if_pos, if_neg, o_b1_s, o_b2_s, o_b3_s, o_b4_s, o_s1_s, o_s2_l, o_s2_r, o_g_t, i_add, i_mul, i_sub, i_and, i_or, i_xor, i_sd, i_shl, Nat.one_mul, i_eq, i_lt, i_le, i_n0, i_0le, i_e0, i_0lt, i_le0, i_cl, bz_0, wp_s, lq_l, lq_r, if_true, if_false, ite_not, true_and, and_true, m_303_b2, m_303_x2_23, s_265, (hf J hJ).1, (hf J hJ).2, r_75_27, g_88]
    refine wp_s1 (wp_lp (fun i q => ∃ J m, q = (nI m, J) ∧ ot I J 88 ∧ wsn (FV I s) (fun z => FV I s z + prs (RP I) z) a (J 88) ∧ FV I s a + prs (RP I) a ≤ J 88 a ∧ ((m = 1 ∧ i ≤ ph (FV I s) (fun z => FV I s z + prs (RP I) z) (J 88) 256) ∨ (m = 0 ∧ wst2 (FV I s) (fun z => FV I s z + prs (RP I) z) a (J 88)))) 0 18000 (Nat.zero_le _) (by omega) ⟨_, 1, rfl, fun c hc => by rw [up_ne hc]; exact hJ c hc, fun x hx2 => ?_, by rw [up_eq, up_eq]; exact Int32.le_refl _, Or.inl ⟨rfl, Nat.zero_le _⟩⟩ ?_ ?_)
    · rw [up_eq]
      by_cases e : x = a
      · rw [e, up_eq]
        exact Or.inr ⟨ha, ⟨0, rfl, Int32.le_refl _⟩, a, ha, rfl⟩
      · rw [up_ne e]
        exact Or.inl (hx x hx2)
    · rintro i _ hi ⟨J, m, rfl, hJ, hsn, hSa, ⟨rfl, hph⟩ | ⟨rfl, hst⟩⟩
      · simp (disch := omega) only [if_pos, if_neg, o_b1_s, o_b2_s, o_b3_s, o_b4_s, o_s1_s, o_s2_l, o_s2_r, o_g_t, i_add, i_mul, i_sub, i_and, i_or, i_xor, i_sd, i_shl, Nat.one_mul, i_eq, i_lt, i_le, i_n0, i_0le, i_e0, i_0lt, i_le0, i_cl, bz_0, wp_s, lq_l, lq_r, if_true, if_false, ite_not, true_and, and_true, m_303_b37]
        refine wp_s1 (wp_lp (fun y q => ∃ K m, q = (nI m, nI y, K) ∧ ot I K 88 ∧ wsn (FV I s) (fun z => FV I s z + prs (RP I) z) a (K 88) ∧ FV I s a + prs (RP I) a ≤ K 88 a ∧ ((m = 1 ∧ i + 1 ≤ ph (FV I s) (fun z => FV I s z + prs (RP I) z) (K 88) 256) ∨ (m = 0 ∧ K 88 = J 88 ∧ ∀ u, u < y → u ∈ BL (FV I s) → ¬ J 88 u = NO → ∀ x, x ∈ BL (FV I s) → nb u x → mn (J 88 u) (FV I s x + prs (RP I) x) ≤ J 88 x))) 0 256 (Nat.zero_le _) (by omega) ⟨J, 0, rfl, hJ, hsn, hSa, Or.inr ⟨rfl, rfl, fun u h9 => absurd h9 (Nat.not_lt_zero _)⟩⟩ ?_ ?_)
        · rintro y _ hy ⟨K, m, rfl, hK, hsK, hSK, hP⟩
          simp (disch := omega) only [if_pos, if_neg, o_b1_s, o_b2_s, o_b3_s, o_b4_s, o_s1_s, o_s2_l, o_s2_r, o_g_t, i_add, i_mul, i_sub, i_and, i_or, i_xor, i_sd, i_shl, Nat.one_mul, i_eq, i_lt, i_le, i_n0, i_0le, i_e0, i_0lt, i_le0, i_cl, bz_0, wp_s, lq_l, lq_r, if_true, if_false, ite_not, true_and, and_true, m_303_b46]
          refine wp_s1 (wp_lp (fun x q => ∃ K m, q = (nI m, nI x, K) ∧ ot I K 88 ∧ wsn (FV I s) (fun z => FV I s z + prs (RP I) z) a (K 88) ∧ FV I s a + prs (RP I) a ≤ K 88 a ∧ ((m = 1 ∧ i + 1 ≤ ph (FV I s) (fun z => FV I s z + prs (RP I) z) (K 88) 256) ∨ (m = 0 ∧ K 88 = J 88 ∧ (∀ u, u < y → u ∈ BL (FV I s) → ¬ J 88 u = NO → ∀ x, x ∈ BL (FV I s) → nb u x → mn (J 88 u) (FV I s x + prs (RP I) x) ≤ J 88 x) ∧ (¬ J 88 y = NO → ∀ v, v < x → v ∈ BL (FV I s) → nb y v → mn (J 88 y) (FV I s v + prs (RP I) v) ≤ J 88 v)))) 0 256 (Nat.zero_le _) (by omega) ⟨K, m, rfl, hK, hsK, hSK, ?_⟩ ?_ ?_)
          · rcases hP with hP | ⟨h1, h2, h3⟩
            · exact Or.inl hP
            · exact Or.inr ⟨h1, h2, h3, fun _ v h9 => absurd h9 (Nat.not_lt_zero _)⟩
          · rintro x _ hx ⟨K, m, rfl, hK, hsK, hSK, hP⟩
            simp (disch := omega) only [if_pos, if_neg, o_b1_s, o_b2_s, o_b3_s, o_b4_s, o_s1_s, o_s2_l, o_s2_r, o_g_t, i_add, i_mul, i_sub, i_and, i_or, i_xor, i_sd, i_shl, Nat.one_mul, i_eq, i_lt, i_le, i_n0, i_0le, i_e0, i_0lt, i_le0, i_cl, bz_0, wp_s, lq_l, lq_r, if_true, if_false, ite_not, true_and, and_true, m_303_b57, r_75_27, g_88, s_199, s_267, s_265, (hf K hK).1, (hf K hK).2, mn_190]
            split
            · rename_i c0
              simp (disch := omega) only [o_b1_s, o_b2_s, o_b3_s, o_b4_s, o_s1_s, o_s2_l, o_s2_r, o_g_t, i_add, i_mul, i_sub, i_and, i_or, i_xor, i_sd, i_shl, Nat.one_mul, i_eq, i_lt, i_le, i_n0, i_0le, i_e0, i_0lt, i_le0, i_cl, bz_0, wp_s, lq_l, lq_r, if_true, if_false, ite_not, true_and, and_true, m_303_x57_159]
              refine ⟨K, m, rfl, hK, hsK, hSK, ?_⟩
              rcases hP with hP | ⟨h1, h2, h3, h4⟩
              · exact Or.inl hP
              · refine Or.inr ⟨h1, h2, fun u hu hu2 hu3 => ?_⟩
                by_cases e : u = y
                · rw [e] at hu3
                  rw [← h2] at hu3
                  exact absurd c0 hu3
                · exact h3 u (by omega) hu2 hu3
            · rename_i c0
              have skip : (FV I s x = NO ∨ ¬ nb y x ∨ mn (K 88 y) (FV I s x + prs (RP I) x) ≤ K 88 x) → ∃ K_1 m_1, (nI m, nI (x + 1), K) = (nI m_1, nI (x + 1), K_1) ∧ ot I K_1 88 ∧ wsn (FV I s) (fun z => FV I s z + prs (RP I) z) a (K_1 88) ∧ FV I s a + prs (RP I) a ≤ K_1 88 a ∧ ((m_1 = 1 ∧ i + 1 ≤ ph (FV I s) (fun z => FV I s z + prs (RP I) z) (K_1 88) 256) ∨ (m_1 = 0 ∧ K_1 88 = J 88 ∧ (∀ u, u < y → u ∈ BL (FV I s) → ¬ J 88 u = NO → ∀ x, x ∈ BL (FV I s) → nb u x → mn (J 88 u) (FV I s x + prs (RP I) x) ≤ J 88 x) ∧ (¬ J 88 y = NO → ∀ v, v < x + 1 → v ∈ BL (FV I s) → nb y v → mn (J 88 y) (FV I s v + prs (RP I) v) ≤ J 88 v))) := fun hno => by
                refine ⟨K, m, rfl, hK, hsK, hSK, ?_⟩
                rcases hP with hP | ⟨h1, h2, h3, h4⟩
                · exact Or.inl hP
                · refine Or.inr ⟨h1, h2, h3, fun hyn v hv hvB hvn => ?_⟩
                  by_cases e : v = x
                  · subst e
                    rcases hno with hno | hno | hno
                    · exact absurd hno (BL_mem.1 hvB).2
                    · exact absurd hvn hno
                    · rw [h2] at hno
                      exact hno
                  · exact h4 hyn v (by omega) hvB hvn
              split
              · rename_i c1
                simp (disch := omega) only [o_b1_s, o_b2_s, o_b3_s, o_b4_s, o_s1_s, o_s2_l, o_s2_r, o_g_t, i_add, i_mul, i_sub, i_and, i_or, i_xor, i_sd, i_shl, Nat.one_mul, i_eq, i_lt, i_le, i_n0, i_0le, i_e0, i_0lt, i_le0, i_cl, bz_0, wp_s, lq_l, lq_r, if_true, if_false, ite_not, true_and, and_true]
                exact skip (Or.inl c1)
              · rename_i c1
                have hxB : x ∈ BL (FV I s) := BL_mem.2 ⟨hx, c1⟩
                split
                · rename_i c2
                  split
                  · rename_i c3
                    obtain ⟨u1, u2⟩ := wsn_up hsK hy c0 hxB c2
                    obtain ⟨z, hz, ez⟩ := u2
                    have hcz := cz_lt (S := fun z => FV I s z + prs (RP I) z) hz ez c3
                    have hup := ph_up hcz 256
                    rw [if_pos hx] at hup
                    simp (disch := omega) only [o_b1_s, o_b2_s, o_b3_s, o_b4_s, o_s1_s, o_s2_l, o_s2_r, o_g_t, i_add, i_mul, i_sub, i_and, i_or, i_xor, i_sd, i_shl, Nat.one_mul, i_eq, i_lt, i_le, i_n0, i_0le, i_e0, i_0lt, i_le0, i_cl, bz_0, wp_s, lq_l, lq_r, if_true, if_false, ite_not, true_and, and_true]
                    refine ⟨_, 1, rfl, fun c hc => by rw [up_ne hc]; exact hK c hc, fun v hv => ?_, ?_, Or.inl ⟨rfl, ?_⟩⟩
                    · rw [up_eq]
                      by_cases e : v = x
                      · rw [e, up_eq]
                        exact Or.inr ⟨hxB, u1, z, hz, ez⟩
                      · rw [up_ne e]
                        exact hsK v hv
                    · rw [up_eq]
                      by_cases e : a = x
                      · rw [← e] at c3 ⊢
                        rw [up_eq]
                        exact Int32.le_trans hSK (Int32.le_of_lt c3)
                      · rw [up_ne e]
                        exact hSK
                    · rw [up_eq]
                      rcases hP with ⟨h1, h2⟩ | ⟨h1, h2, h3, h4⟩
                      · omega
                      · rw [h2] at hup ⊢
                        omega
                  · rename_i c3
                    simp (disch := omega) only [o_b1_s, o_b2_s, o_b3_s, o_b4_s, o_s1_s, o_s2_l, o_s2_r, o_g_t, i_add, i_mul, i_sub, i_and, i_or, i_xor, i_sd, i_shl, Nat.one_mul, i_eq, i_lt, i_le, i_n0, i_0le, i_e0, i_0lt, i_le0, i_cl, bz_0, wp_s, lq_l, lq_r, if_true, if_false, ite_not, true_and, and_true]
                    exact skip (Or.inr (Or.inr (Int32.not_lt.1 c3)))
                · rename_i c2
                  simp (disch := omega) only [o_b1_s, o_b2_s, o_b3_s, o_b4_s, o_s1_s, o_s2_l, o_s2_r, o_g_t, i_add, i_mul, i_sub, i_and, i_or, i_xor, i_sd, i_shl, Nat.one_mul, i_eq, i_lt, i_le, i_n0, i_0le, i_e0, i_0lt, i_le0, i_cl, bz_0, wp_s, lq_l, lq_r, if_true, if_false, ite_not, true_and, and_true]
                  exact skip (Or.inr (Or.inl c2))
          · rintro _ ⟨K, m, rfl, hK, hsK, hSK, hP⟩
            simp (disch := omega) only [if_pos, if_neg, o_b1_s, o_b2_s, o_b3_s, o_b4_s, o_s1_s, o_s2_l, o_s2_r, o_g_t, i_add, i_mul, i_sub, i_and, i_or, i_xor, i_sd, i_shl, Nat.one_mul, i_eq, i_lt, i_le, i_n0, i_0le, i_e0, i_0lt, i_le0, i_cl, bz_0, wp_s, lq_l, lq_r, if_true, if_false, ite_not, true_and, and_true, m_303_b57, m_303_x57_159]
            refine ⟨K, m, rfl, hK, hsK, hSK, ?_⟩
            rcases hP with hP | ⟨h1, h2, h3, h4⟩
            · exact Or.inl hP
            · refine Or.inr ⟨h1, h2, fun u hu hu2 hu3 => ?_⟩
              by_cases e : u = y
              · rw [e] at hu3 ⊢
                exact fun x hx hn => h4 hu3 x (BL_mem.1 hx).1 hx hn
              · exact h3 u (by omega) hu2 hu3
        · rintro _ ⟨K, m, rfl, hK, hsK, hSK, hP⟩
          simp (disch := omega) only [if_pos, if_neg, o_b1_s, o_b2_s, o_b3_s, o_b4_s, o_s1_s, o_s2_l, o_s2_r, o_g_t, i_add, i_mul, i_sub, i_and, i_or, i_xor, i_sd, i_shl, Nat.one_mul, i_eq, i_lt, i_le, i_n0, i_0le, i_e0, i_0lt, i_le0, i_cl, bz_0, wp_s, lq_l, lq_r, if_true, if_false, ite_not, true_and, and_true, m_303_b46, m_303_x46_165]
          refine ⟨K, m, rfl, hK, hsK, hSK, ?_⟩
          rcases hP with hP | ⟨h1, h2, h3⟩
          · exact Or.inl hP
          · refine Or.inr ⟨h1, hSK, fun u hu hu2 x hx hn => ?_⟩
            rw [h2] at hu2 ⊢
            exact h3 u (BL_mem.1 hu).1 hu hu2 x hx hn
      · simp (disch := omega) only [if_pos, if_neg, o_b1_s, o_b2_s, o_b3_s, o_b4_s, o_s1_s, o_s2_l, o_s2_r, o_g_t, i_add, i_mul, i_sub, i_and, i_or, i_xor, i_sd, i_shl, Nat.one_mul, i_eq, i_lt, i_le, i_n0, i_0le, i_e0, i_0lt, i_le0, i_cl, bz_0, wp_s, lq_l, lq_r, if_true, if_false, ite_not, true_and, and_true, m_303_b37, m_303_x37_168]
        exact ⟨hJ, hsn, hst⟩
    · rintro _ ⟨J, m, rfl, hJ, hsn, hSa, ⟨rfl, hph⟩ | ⟨rfl, hst⟩⟩
      · have := ph_le (S := fun z => FV I s z + prs (RP I) z) (w := J 88) hl 256
        omega
      · simp (disch := omega) only [if_pos, if_neg, o_b1_s, o_b2_s, o_b3_s, o_b4_s, o_s1_s, o_s2_l, o_s2_r, o_g_t, i_add, i_mul, i_sub, i_and, i_or, i_xor, i_sd, i_shl, Nat.one_mul, i_eq, i_lt, i_le, i_n0, i_0le, i_e0, i_0lt, i_le0, i_cl, bz_0, wp_s, lq_l, lq_r, if_true, if_false, ite_not, true_and, and_true, m_303_b37, m_303_x37_168]
        exact ⟨hJ, hsn, hst⟩
