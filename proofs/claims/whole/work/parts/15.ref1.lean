/-! The reference's small methods. -/
/-- none -/
abbrev NO : Int32 := -2147483648
/-- the values of a shelf of the reference's file -/
def FV (I : ai_I) (s : Nat) : Nat → Int32 := fun k => I 76 (258 * s + 2 + k)
theorem s_191 (a b : Int32) : m_191 a b = some (if a ≤ b then b else a) := by
  unfold m_191
  split <;> rfl
theorem s_190 (a b : Int32) : m_190 a b = some (if b ≤ a then b else a) := by
  unfold m_190
  split <;> rfl
theorem s_191n {a b : Nat} (ha : a < 2147483648) (hb : b < 2147483648) : m_191 (nI a) (nI b) = some (nI (max a b)) := by
  rw [s_191]
  by_cases h : a ≤ b
  · rw [q_leT hb h, Nat.max_eq_right h]
  · rw [q_leF ha (by omega), Nat.max_eq_left (by omega)]
theorem s_192_all : ∀ a, a < 256 → ∀ k, k < 9 → m_192 (nI a) (nI k) = some (bz (a.testBit k = true)) := by decide +kernel
theorem s_192 {a k : Nat} (ha : a < 256) (hk : k < 9) : m_192 (nI a) (nI k) = some (bz (a.testBit k = true)) := s_192_all a ha k hk
theorem s_193_all : ∀ a, a < 256 → m_193 (nI a) = some (nI (pc a)) := by decide +kernel
theorem s_193 {a : Nat} (ha : a < 256) : m_193 (nI a) = some (nI (pc a)) := s_193_all a ha
theorem s_331_all : ∀ a, a < 256 → m_331 (nI a) = some (nI (pc a)) := by decide +kernel
theorem s_331 {a : Nat} (ha : a < 256) : m_331 (nI a) = some (nI (pc a)) := s_331_all a ha
theorem pc_le (a : Nat) : pc a ≤ 8 := by
  unfold pc
  omega
theorem s_195 {I : ai_I} {t L s : Nat} (hs : s < 12) : m_195 75 (nI s) I (Rc t) (Gc L) = some (I 76 (258 * s)) := by
  unfold m_195
  rw [r_75_0, i_mul, g_76 (by omega), o_g_t, i_cl (by omega)]
theorem s_196 {I : ai_I} {t L s : Nat} (hs : s < 12) : m_196 75 (nI s) I (Rc t) (Gc L) = some (I 76 (258 * s + 1)) := by
  unfold m_196
  rw [r_75_0, i_mul, i_add, g_76 (by omega), o_g_t, i_cl (by omega)]
theorem s_198 {I : ai_I} {t L s k : Nat} (hs : s < 12) (hk : k < 256) : m_198 75 (nI s) (nI k) I (Rc t) (Gc L) = some (FV I s k) := by
  unfold m_198
  rw [r_75_0, i_mul, i_add, i_add, g_76 (by omega), o_g_t, i_cl (by omega)]
  rfl
theorem j_lit : (255 : Int64) = (nI 255).toInt64 ∧ (0 : Int64) = (nI 0).toInt64 ∧ (3 : Int64) = (nI 3).toInt64 := by decide +kernel
theorem j_le (a b : Int32) : (a.toInt64 ≤ b.toInt64) = (a ≤ b) := by
  apply propext
  rw [Int64.le_iff_toInt_le, Int32.le_iff_toInt_le, Int32.toInt_toInt64, Int32.toInt_toInt64]
theorem s_189i (x a b : Int32) : m_189 x.toInt64 a.toInt64 b.toInt64 = some (bz (a ≤ x ∧ x ≤ b)) := by
  rw [s_189]
  exact congrArg some (bz_c (by rw [j_le, j_le]))
theorem s_199 {I : ai_I} {t L s k : Nat} (hs : s < 12) (hk : k < 256) : m_199 75 (nI s) (nI k) I (Rc t) (Gc L) = some (bz (FV I s k ≠ NO)) := by
  unfold m_199
  rw [j_lit.1, j_lit.2.1, s_189i, o_b1_s, q_bz, if_pos ⟨nI_le (by omega) (by omega), nI_le (by omega) (by omega)⟩, s_198 hs hk, o_b1_s]
  by_cases h : FV I s k = NO
  · rw [if_pos h, bz_f (fun h2 => h2 h)]
  · rw [if_neg h, bz_t h]
theorem s_199o {I : ai_I} {t L s : Nat} {x : Int32} (h : ¬ (nI 0 ≤ x ∧ x ≤ nI 255)) : m_199 75 (nI s) x I (Rc t) (Gc L) = some (nI 0) := by
  unfold m_199
  rw [j_lit.1, j_lit.2.1, s_189i, o_b1_s, q_bz, if_neg h]
theorem s_200 (x : Int32) : m_200 x = some (bz (nI 0 ≤ x ∧ x ≤ nI 3)) := by
  unfold m_200
  rw [j_lit.2.1, j_lit.2.2, s_189i, o_b1_s, bz_bz]
  rfl
/-- the bases, rising -/
def BL (V : Nat → Int32) : List Nat := (List.range 256).filter (fun k => decide (V k ≠ NO))
theorem fd_len (p : Nat → Bool) : ∀ (l : List Nat) (a : Nat), fd (fun k a => if p k = true then a + 1 else a) l a = a + (l.filter p).length
  | [], a => rfl
  | x :: l, a => by
    unfold fd
    rw [fd_len p l]
    by_cases h : p x = true
    · rw [if_pos h, List.filter_cons_of_pos h, List.length_cons]
      omega
    · rw [if_neg h, List.filter_cons_of_neg h]
theorem s_204 {I : ai_I} {t L s : Nat} (hs : s < 12) : m_204 75 (nI s) I (Rc t) (Gc L) = some (nI (BL (FV I s)).length) := by
  unfold m_204
  refine lp_fd_s1 (fun k a => (nI a, nI k)) (fun k a => if decide (FV I s k ≠ NO) = true then a + 1 else a) (fun a => nI a) (fun k a => a ≤ k) 256 0 ?_ ?_ (by omega) (by omega) ?_
  · intro k a hk hp
    refine ⟨by split <;> omega, ?_⟩
    show m_204_b4 75 (nI s) I (Rc t) (Gc L) (nI a) (nI k) = _
    unfold m_204_b4
    rw [q_leF (by omega) hk, s_199 hs hk, o_b1_s, q_bz]
    by_cases h : FV I s k ≠ NO
    · rw [if_pos h, o_b1_s, o_b1_s, i_add, i_add, if_pos (decide_eq_true h)]
    · rw [if_neg h, o_b1_s, i_add, if_neg (fun h2 => h (of_decide_eq_true h2))]
  · intro a hp
    show m_204_b4 75 (nI s) I (Rc t) (Gc L) (nI a) (nI 256) = _
    unfold m_204_b4
    rw [if_pos (by decide)]
  · rw [fd_len, Nat.zero_add]
    rfl
/-- the rank of a set: the most that a base has of it -/
def rk (V : Nat → Int32) (set : Nat) : Nat := fd (fun k a => max a (pc (k &&& set))) (BL V) 0
theorem rk_le (V : Nat → Int32) (set : Nat) : rk V set ≤ 8 := fd_P (fun a => a ≤ 8) (by omega) (fun x _ a h => by
  have := pc_le (x &&& set)
  show max a (pc (x &&& set)) ≤ 8
  omega)
theorem s_250 {I : ai_I} {t L s set : Nat} (hs : s < 12) (hset : set < 256) : m_250 75 (nI s) (nI set) I (Rc t) (Gc L) = some (nI (rk (FV I s) set)) := by
  unfold m_250
  refine lp_fd_s1 (fun k a => (nI a, nI k)) (fun k a => if decide (FV I s k ≠ NO) = true then max a (pc (k &&& set)) else a) (fun a => nI a) (fun k a => a ≤ 8) 256 0 ?_ ?_ (by omega) (by omega) ?_
  · intro k a hk hp
    have h8 := pc_le (k &&& set)
    have hks : k &&& set < 256 := bit_and_lt hk
    refine ⟨by split <;> omega, ?_⟩
    show m_250_b5 75 (nI s) (nI set) I (Rc t) (Gc L) (nI a) (nI k) = _
    unfold m_250_b5
    rw [q_leF (by omega) hk, s_199 hs hk, o_b1_s, q_bz]
    by_cases h : FV I s k ≠ NO
    · rw [if_pos h, i_and, s_193 hks, o_b1_s, s_191n (by omega) (by omega), o_b1_s, o_b1_s, i_add, if_pos (decide_eq_true h)]
    · rw [if_neg h, o_b1_s, i_add, if_neg (fun h2 => h (of_decide_eq_true h2))]
  · intro a hp
    show m_250_b5 75 (nI s) (nI set) I (Rc t) (Gc L) (nI a) (nI 256) = _
    unfold m_250_b5
    rw [if_pos (by decide)]
  · rw [fd_filter]
    rfl
