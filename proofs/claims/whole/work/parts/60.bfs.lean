/-! Fewest steps to each base: one run, by both. -/
theorem pc_xor {a b : Nat} (h : pc a = pc b) : pc (a ^^^ b) = 2 * pc (sd a b) := by
  have e1 : (a ^^^ b) &&& a = sd a b := by
    apply Nat.eq_of_testBit_eq
    intro i
    rw [Nat.testBit_and, Nat.testBit_xor, sd_bit]
    cases a.testBit i <;> cases b.testBit i <;> rfl
  have e2 : sd (a ^^^ b) a = sd b a := by
    apply Nat.eq_of_testBit_eq
    intro i
    rw [sd_bit, Nat.testBit_xor, sd_bit]
    cases a.testBit i <;> cases b.testBit i <;> rfl
  have h1 := pc_split (a ^^^ b) a
  have h2 := pc_split a b
  have h3 := pc_split b a
  rw [e1, e2] at h1
  rw [Nat.and_comm b a] at h3
  omega
theorem c_129 {a b : Nat} (ha : a < 256) (hb : b < 256) (h : pc a = pc b) : m_129 (nI a) (nI b) = some (bz (nb a b)) := by
  have hx := bit_xor_lt ha hb
  have hp := pc_le (sd a b)
  simp (disch := omega) only [o_b1_s, o_b2_s, o_b3_s, o_b4_s, o_s1_s, o_s2_l, o_s2_r, o_g_t, i_add, i_mul, i_sub, i_and, i_or, i_xor, i_sd, i_shl, Nat.one_mul, i_eq, i_lt, i_le, i_n0, i_0le, i_e0, i_0lt, i_le0, i_cl, bz_0, wp_s, lq_l, lq_r, if_true, if_false, ite_not, true_and, and_true, m_129, s_331, pc_xor h]
  by_cases c : pc (sd a b) = 1
  · have hne : ¬ a = b := fun h9 => by
      rw [h9] at c
      have e : sd b b = 0 := and_n0.2 (Nat.and_self b)
      rw [e] at c
      cases c
    rw [if_pos (by omega), bz_t ⟨hne, c⟩]
  · rw [if_neg (by omega), bz_f (fun h9 => c h9.2)]
/-- how many are in the row, the row, one more than the steps (0: none) -/
abbrev bst3 : Type := Nat × (Nat → Nat) × (Nat → Nat)
def bstp (V : Nat → Int32) (k b : Nat) (s : bst3) : bst3 := if V b ≠ NO ∧ s.2.2 b = 0 ∧ nb (s.2.1 k) b then (s.1 + 1, va_up s.2.1 s.1 b, va_up s.2.2 b (s.2.2 (s.2.1 k) + 1)) else s
def bin (V : Nat → Int32) (k N : Nat) (s : bst3) : bst3 := fd (bstp V k) (List.range N) s
def bsg (V : Nat → Int32) (a : Nat) : Nat → bst3
  | 0 => (1, fun _ => a, fun x => if x = a then 1 else 0)
  | k + 1 => bin V k 256 (bsg V a k)
theorem bin_succ (V : Nat → Int32) (k N : Nat) (s : bst3) : bin V k (N + 1) s = bstp V k N (bin V k N s) := by
  unfold bin
  rw [List.range_succ, fd_append]
  rfl
def nz (st : Nat → Nat) (x : Nat) : Bool := decide (¬ st x = 0)
/-- what holds of a row as it grows from its k-th -/
def BI (V : Nat → Int32) (k : Nat) (s : bst3) : Prop := 0 < s.1 ∧ ((BL V).filter (nz s.2.2)).length = s.1 ∧ (∀ i, i < s.1 → s.2.1 i ∈ BL V ∧ ¬ s.2.2 (s.2.1 i) = 0) ∧ (∀ x, s.2.2 x ≤ s.1) ∧ (∀ x, x ∈ BL V → ¬ s.2.2 x = 0 → ∃ i, i < s.1 ∧ s.2.1 i = x) ∧ (∀ i j, i ≤ j → j < s.1 → s.2.2 (s.2.1 i) ≤ s.2.2 (s.2.1 j)) ∧ (k < s.1 → ∀ j, j < s.1 → s.2.2 (s.2.1 j) ≤ s.2.2 (s.2.1 k) + 1)
theorem cnt_add {st : Nat → Nat} {b v : Nat} (hv : ¬ v = 0) : ∀ {l : List Nat}, l.Pairwise (· < ·) → b ∈ l → st b = 0 → (l.filter (nz (va_up st b v))).length = (l.filter (nz st)).length + 1
  | [], _, h, _ => absurd h (List.not_mem_nil)
  | y :: l, hp, h, h0 => by
    have hp2 := List.pairwise_cons.1 hp
    by_cases e : b = y
    · subst e
      have rest : l.filter (nz (va_up st b v)) = l.filter (nz st) := List.filter_congr (fun x hx => by
        unfold nz
        have := hp2.1 x hx
        rw [up_ne (show ¬ x = b by omega)])
      rw [List.filter_cons_of_pos (by unfold nz; rw [up_eq]; exact decide_eq_true hv), List.filter_cons_of_neg (by unfold nz; simp [h0]), rest, List.length_cons]
    · have hl : b ∈ l := by
        rcases List.mem_cons.1 h with h | h
        · exact absurd h e
        · exact h
      have ih := cnt_add hv hp2.2 hl h0
      have e2 : nz (va_up st b v) y = nz st y := by
        unfold nz
        rw [up_ne (fun h9 => e h9.symm)]
      by_cases c : nz st y = true
      · rw [List.filter_cons_of_pos (by rw [e2]; exact c), List.filter_cons_of_pos c, List.length_cons, List.length_cons, ih]
      · rw [List.filter_cons_of_neg (by rw [e2]; exact c), List.filter_cons_of_neg c, ih]
theorem BI_lt {V : Nat → Int32} {k b : Nat} {s : bst3} (h : BI V k s) (hb : b ∈ BL V) (h0 : s.2.2 b = 0) : s.1 < (BL V).length := by
  rw [← h.2.1]
  have h2 := filter_lt (p := nz s.2.2) (q := fun _ => true) hb (by unfold nz; simp [h0]) rfl (fun _ _ _ => rfl)
  rw [List.filter_eq_self.2 (fun _ _ => rfl)] at h2
  exact h2
theorem BI_le {V : Nat → Int32} {k : Nat} {s : bst3} (h : BI V k s) : s.1 ≤ (BL V).length := by
  rw [← h.2.1]
  exact List.length_filter_le _ _
theorem BI_stp {V : Nat → Int32} {k b : Nat} {s : bst3} (hb : b < 256) (hk : k < s.1) (h : BI V k s) : BI V k (bstp V k b s) ∧ k < (bstp V k b s).1 ∧ s.1 ≤ (bstp V k b s).1 ∧ (∀ i, i < s.1 → (bstp V k b s).2.1 i = s.2.1 i ∧ (bstp V k b s).2.2 (s.2.1 i) = s.2.2 (s.2.1 i)) := by
  unfold bstp
  split
  · rename_i c
    obtain ⟨c1, c2, c3⟩ := c
    have hbB : b ∈ BL V := BL_mem.2 ⟨hb, c1⟩
    obtain ⟨h0, h1, h2, h3, h4, h5, h6⟩ := h
    have hne : ∀ i, i < s.1 → ¬ s.2.1 i = b := fun i hi h9 => (h2 i hi).2 (by rw [h9]; exact c2)
    have hln : ∀ i, i < s.1 → va_up s.2.1 s.1 b i = s.2.1 i := fun i hi => up_ne (by omega)
    have hst : ∀ i, i < s.1 → va_up s.2.2 b (s.2.2 (s.2.1 k) + 1) (s.2.1 i) = s.2.2 (s.2.1 i) := fun i hi => up_ne (hne i hi)
    have hs2 : ∀ i, i < s.1 → va_up s.2.2 b (s.2.2 (s.2.1 k) + 1) (va_up s.2.1 s.1 b i) = s.2.2 (s.2.1 i) := fun i hi => by rw [hln i hi, hst i hi]
    have hsn : va_up s.2.2 b (s.2.2 (s.2.1 k) + 1) (va_up s.2.1 s.1 b s.1) = s.2.2 (s.2.1 k) + 1 := by rw [up_eq, up_eq]
    refine ⟨⟨Nat.succ_pos _, ?_, fun i hi => ?_, fun x => ?_, fun x hx hx0 => ?_, fun i j hij hj => ?_, fun hk2 j hj => ?_⟩, by show k < s.1 + 1; omega, Nat.le_succ _, fun i hi => ⟨hln i hi, hst i hi⟩⟩
    · show ((BL V).filter (nz (va_up s.2.2 b (s.2.2 (s.2.1 k) + 1)))).length = s.1 + 1
      rw [cnt_add (Nat.succ_ne_zero _) (BL_sorted V) hbB c2, h1]
    · show va_up s.2.1 s.1 b i ∈ BL V ∧ ¬ va_up s.2.2 b (s.2.2 (s.2.1 k) + 1) (va_up s.2.1 s.1 b i) = 0
      by_cases e : i = s.1
      · rw [e, hsn, up_eq]
        exact ⟨hbB, Nat.succ_ne_zero _⟩
      · have hi2 : i < s.1 := by have : i < s.1 + 1 := hi; omega
        rw [hs2 i hi2, hln i hi2]
        exact h2 i hi2
    · show va_up s.2.2 b (s.2.2 (s.2.1 k) + 1) x ≤ s.1 + 1
      by_cases e : x = b
      · rw [e, up_eq]
        have := h3 (s.2.1 k)
        omega
      · rw [up_ne e]
        have := h3 x
        omega
    · show ∃ i, i < s.1 + 1 ∧ va_up s.2.1 s.1 b i = x
      by_cases e : x = b
      · exact ⟨s.1, Nat.lt_succ_self _, by rw [up_eq, e]⟩
      · have hx1 : ¬ s.2.2 x = 0 := by
          have hx2 : ¬ va_up s.2.2 b (s.2.2 (s.2.1 k) + 1) x = 0 := hx0
          rw [up_ne e] at hx2
          exact hx2
        obtain ⟨i, hi, h9⟩ := h4 x hx hx1
        exact ⟨i, by omega, by rw [hln i hi, h9]⟩
    · show va_up s.2.2 b (s.2.2 (s.2.1 k) + 1) (va_up s.2.1 s.1 b i) ≤ va_up s.2.2 b (s.2.2 (s.2.1 k) + 1) (va_up s.2.1 s.1 b j)
      by_cases e : j = s.1
      · rw [e, hsn]
        by_cases e2 : i = s.1
        · rw [e2, hsn]
          exact Nat.le_refl _
        · have hj2 : j < s.1 + 1 := hj
          rw [hs2 i (by omega)]
          exact h6 hk i (by omega)
      · have hj2 : j < s.1 + 1 := hj
        rw [hs2 i (by omega), hs2 j (by omega)]
        exact h5 i j hij (by omega)
    · show va_up s.2.2 b (s.2.2 (s.2.1 k) + 1) (va_up s.2.1 s.1 b j) ≤ va_up s.2.2 b (s.2.2 (s.2.1 k) + 1) (va_up s.2.1 s.1 b k) + 1
      rw [hs2 k hk]
      by_cases e : j = s.1
      · rw [e, hsn]
        exact Nat.le_refl _
      · have hj2 : j < s.1 + 1 := hj
        rw [hs2 j (by omega)]
        exact h6 hk j (by omega)
  · exact ⟨h, hk, Nat.le_refl _, fun i hi => ⟨rfl, rfl⟩⟩
theorem BI_bin {V : Nat → Int32} {k : Nat} {s : bst3} (hk : k < s.1) (h : BI V k s) : ∀ N, N ≤ 256 → BI V k (bin V k N s) ∧ k < (bin V k N s).1 ∧ s.1 ≤ (bin V k N s).1 ∧ (∀ i, i < s.1 → (bin V k N s).2.1 i = s.2.1 i ∧ (bin V k N s).2.2 (s.2.1 i) = s.2.2 (s.2.1 i))
  | 0, _ => ⟨h, hk, Nat.le_refl _, fun i hi => ⟨rfl, rfl⟩⟩
  | N + 1, hN => by
    obtain ⟨a1, a2, a3, a4⟩ := BI_bin hk h N (by omega)
    obtain ⟨b1, b2, b3, b4⟩ := BI_stp (b := N) (by omega) a2 a1
    rw [bin_succ]
    refine ⟨b1, b2, Nat.le_trans a3 b3, fun i hi => ?_⟩
    obtain ⟨e1, e2⟩ := a4 i hi
    obtain ⟨e3, e4⟩ := b4 i (by omega)
    rw [e1] at e3 e4
    exact ⟨e3, by rw [e4, e2]⟩
theorem BI_next {V : Nat → Int32} {k : Nat} {s : bst3} (hk : k < s.1) (h : BI V k s) : BI V (k + 1) s := by
  obtain ⟨h0, h1, h2, h3, h4, h5, h6⟩ := h
  refine ⟨h0, h1, h2, h3, h4, h5, fun hk2 j hj => ?_⟩
  have := h6 hk j hj
  have := h5 k (k + 1) (by omega) hk2
  omega
theorem BI_sg {V : Nat → Int32} {a : Nat} (ha : a ∈ BL V) : ∀ k, (∀ j, j < k → j < (bsg V a j).1) → BI V k (bsg V a k)
  | 0, _ => by
    refine ⟨Nat.one_pos, ?_, fun i hi => ⟨ha, ?_⟩, fun x => ?_, fun x hx hx0 => ⟨0, Nat.one_pos, ?_⟩, fun i j hij hj => Nat.le_refl _, fun _ j hj => Nat.le_succ _⟩
    · show ((BL V).filter (nz (fun x => if x = a then 1 else 0))).length = 1
      have e : (fun x => if x = a then 1 else 0) = va_up (fun _ => 0) a 1 := by
        funext x
        by_cases c : x = a
        · rw [if_pos c, c, up_eq]
        · rw [if_neg c, up_ne c]
      rw [e, cnt_add (by decide) (BL_sorted V) ha rfl]
      rw [List.filter_eq_nil_iff.2 (fun x hx => by simp [nz])]
      rfl
    · show ¬ (if a = a then 1 else 0) = 0
      rw [if_pos rfl]
      decide
    · show (if x = a then 1 else 0) ≤ 1
      split <;> omega
    · have h9 : ¬ (if x = a then 1 else 0) = 0 := hx0
      by_cases c : x = a
      · exact c.symm
      · rw [if_neg c] at h9
        exact absurd rfl h9
  | k + 1, h => by
    have ih := BI_sg ha k (fun j hj => h j (by omega))
    have hk := h k (by omega)
    obtain ⟨a1, a2, -⟩ := BI_bin hk ih 256 (Nat.le_refl _)
    exact BI_next a2 a1
/-- cells that tell a row: steps in c, the row in d -/
def BE (J : ai_I) (c d : Nat) (s : bst3) : Prop := (∀ x, x < 256 → J c x = dwn (s.2.2 x)) ∧ ∀ i, i < s.1 → J d i = nI (s.2.1 i)
/-- the end of a row -/
def BQ (V : Nat → Int32) (a k : Nat) : Prop := (bsg V a k).1 ≤ k ∧ ∀ j, j < k → j < (bsg V a j).1
theorem BQ_one {V : Nat → Int32} {a k l : Nat} (h1 : BQ V a k) (h2 : BQ V a l) : k = l := by
  by_cases c : k < l
  · have := h2.2 k c
    have := h1.1
    omega
  · by_cases c2 : l < k
    · have := h1.2 l c2
      have := h2.1
      omega
    · omega
theorem BE_up {J : ai_I} {c d k b : Nat} {s : bst3} (hcd : ¬ c = d) (h : BE J c d s) : BE (va_up (va_up J c (va_up (J c) b (nI (s.2.2 (s.2.1 k))))) d (va_up ((va_up J c (va_up (J c) b (nI (s.2.2 (s.2.1 k))))) d) s.1 (nI b))) c d (s.1 + 1, va_up s.2.1 s.1 b, va_up s.2.2 b (s.2.2 (s.2.1 k) + 1)) := by
  refine ⟨fun x hx => ?_, fun i hi => ?_⟩
  · rw [up_ne hcd, up_eq]
    show _ = dwn (va_up s.2.2 b (s.2.2 (s.2.1 k) + 1) x)
    by_cases e : x = b
    · rw [e, up_eq, up_eq, dwn_s]
    · rw [up_ne e, up_ne e]
      exact h.1 x hx
  · rw [up_eq]
    show _ = nI (va_up s.2.1 s.1 b i)
    by_cases e : i = s.1
    · rw [e, up_eq, up_eq]
    · have hi2 : i < s.1 + 1 := hi
      rw [up_ne e, up_ne e, up_ne (fun h9 => hcd h9.symm)]
      exact h.2 i (by omega)
