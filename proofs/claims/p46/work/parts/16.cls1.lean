/-! Out of whole's part 16.cls1, by wip/p46/extract.py. -/
/-- n, r and values of a valuation -/
def WF (n r : Nat) (V : Nat → Int32) : Prop := 2 ≤ n ∧ n ≤ 8 ∧ 1 ≤ r ∧ r < n ∧ (∀ k, k < 256 → V k ≠ NO → k < 2 ^ n ∧ pc k = r ∧ -1000000 ≤ V k ∧ V k ≤ 1000000) ∧ (∃ k, k < 256 ∧ V k ≠ NO)
/-- a class's shelf v holds it -/
def CS (I : ai_I) (v n r : Nat) (V : Nat → Int32) : Prop := I v 0 = nI n ∧ I v 1 = nI r ∧ I v 2 = nI (BL V).length ∧ (∀ k, k < 256 → I (v + 1) k = V k) ∧ (∀ k, k < 256 → I (v + 2) k = nI (rk V k)) ∧ (∀ p, p < (BL V).length → I (v + 3) p = nI ((BL V).getD p 0))
theorem BL_mem {V : Nat → Int32} {k : Nat} : k ∈ BL V ↔ k < 256 ∧ V k ≠ NO := by
  unfold BL
  rw [List.mem_filter, List.mem_range]
  constructor
  · intro h
    exact ⟨h.1, of_decide_eq_true h.2⟩
  · intro h
    exact ⟨h.1, decide_eq_true h.2⟩
theorem filter_le (p q : Nat → Bool) : ∀ l : List Nat, (∀ x ∈ l, p x = true → q x = true) → (l.filter p).length ≤ (l.filter q).length
  | [], h => Nat.le_refl _
  | x :: l, h => by
    have ih := filter_le p q l (fun y hy => h y (List.mem_cons_of_mem _ hy))
    by_cases hp : p x = true
    · rw [List.filter_cons_of_pos hp, List.filter_cons_of_pos (h x (List.mem_cons_self ..) hp), List.length_cons, List.length_cons]
      omega
    · rw [List.filter_cons_of_neg hp]
      by_cases hq : q x = true
      · rw [List.filter_cons_of_pos hq, List.length_cons]
        omega
      · rw [List.filter_cons_of_neg hq]
        exact ih
theorem pc_cnt : ∀ r, r < 9 → ((List.range 256).filter (fun k => decide (pc k = r))).length ≤ 70 := by decide +kernel
theorem BL_len {n r : Nat} {V : Nat → Int32} (h : WF n r V) : (BL V).length ≤ 70 := by
  obtain ⟨h1, h2, h3, h4, h5, h6⟩ := h
  refine Nat.le_trans (filter_le _ (fun k => decide (pc k = r)) _ (fun x hx hp => ?_)) (pc_cnt r (by omega))
  exact decide_eq_true (h5 x (List.mem_range.1 hx) (of_decide_eq_true hp)).2.1
theorem BL_pos {n r : Nat} {V : Nat → Int32} (h : WF n r V) : 0 < (BL V).length := by
  obtain ⟨h1, h2, h3, h4, h5, k, hk, hV⟩ := h
  exact List.length_pos_of_mem (BL_mem.2 ⟨hk, hV⟩)
theorem BL_at {V : Nat → Int32} {p : Nat} (hp : p < (BL V).length) : (BL V).getD p 0 < 256 ∧ V ((BL V).getD p 0) ≠ NO := by
  rw [List.getD_eq_getElem?_getD, List.getElem?_eq_getElem hp]
  exact BL_mem.1 (List.getElem_mem hp)
theorem p2_le {n : Nat} (h : n ≤ 8) : 2 ^ n ≤ 256 := Nat.pow_le_pow_right (by decide) h
section
variable {I : ai_I} {t v n r : Nat} {L : ai_G} {V : Nat → Int32}
theorem c_118 (hn : n ≤ 8) (h : I v 0 = nI n) : m_85 v I = some (nI (2 ^ n)) := by
  unfold m_85
  rw [h, i_shl (by decide) (by omega), Nat.one_mul]
theorem c_119 (hn : n ≤ 8) (h : I v 0 = nI n) : m_86 v I = some (nI (2 ^ n - 1)) := by
  unfold m_86
  rw [c_118 hn h, o_b1_s, i_sub (Nat.two_pow_pos n)]
theorem c_120 (x : Int32) : m_87 v x I = some (bz (0 ≤ x ∧ x < I v 0)) := by
  unfold m_87
  by_cases h1 : x < 0
  · rw [if_pos h1, bz_f (fun h => Int32.not_le.2 h1 h.1)]
  · rw [if_neg h1]
    by_cases h2 : I v 0 ≤ x
    · rw [if_pos h2, bz_f (fun h => Int32.not_le.2 h.2 h2)]
    · rw [if_neg h2, bz_t ⟨Int32.not_lt.1 h1, Int32.not_le.1 h2⟩]
theorem c_121 (hn : n ≤ 8) (h : I v 0 = nI n) (x : Int32) : m_88 v x I = some (bz (0 ≤ x ∧ x < nI (2 ^ n))) := by
  unfold m_88
  rw [h, i_shl (by decide) (by omega), Nat.one_mul]
  by_cases h1 : x < 0
  · rw [if_pos h1, bz_f (fun h => Int32.not_le.2 h1 h.1)]
  · rw [if_neg h1]
    by_cases h2 : nI (2 ^ n) ≤ x
    · rw [if_pos h2, bz_f (fun h => Int32.not_le.2 h.2 h2)]
    · rw [if_neg h2, bz_t ⟨Int32.not_lt.1 h1, Int32.not_le.1 h2⟩]
theorem c_122 (hv : v ∈ VC) (hW : WF n r V) (h : CS I v n r V) {k : Nat} (hk : k < 256) : m_89 v (nI k) I (Rc t) (Gc L) = some (bz (V k ≠ NO)) := by
  have h8 := p2_le hW.2.1
  unfold m_89
  rw [c_121 hW.2.1 h.1, o_b1_s, q_bz, v_rv hv]
  by_cases h1 : k < 2 ^ n
  · rw [if_pos ⟨nI_pos' (by omega), nI_lt h1 (by omega)⟩, v_gv hv hk, o_g_t, i_cl (by omega), h.2.2.2.1 k hk]
    by_cases h3 : V k = NO
    · rw [if_pos h3, bz_f (fun h2 => h2 h3)]
    · rw [if_neg h3, bz_t h3]
  · rw [if_neg (fun h2 => nI_nlt (by omega) (by omega) h2.2), bz_f (fun h3 => h1 (hW.2.2.2.2.1 k hk h3).1)]
theorem c_122o (hW : WF n r V) (h : CS I v n r V) {x : Int32} (hx : ¬ (nI 0 ≤ x ∧ x ≤ nI 255)) : m_89 v x I (Rc t) (Gc L) = some (nI 0) := by
  have h8 := p2_le hW.2.1
  unfold m_89
  rw [c_121 hW.2.1 h.1, o_b1_s, q_bz]
  rw [if_neg]
  intro h2
  refine hx ⟨h2.1, ?_⟩
  have h3 := h2.2
  rw [Int32.lt_iff_toInt_lt, nI_toInt (by omega)] at h3
  rw [Int32.le_iff_toInt_le, nI_toInt (by decide)]
  omega
theorem c_123 (hv : v ∈ VC) (h : CS I v n r V) {k : Nat} (hk : k < 256) : m_90 v (nI k) I (Rc t) (Gc L) = some (bz (rk V k = pc k)) := by
  have h9 := pc_le k
  have h8 : rk V k < 2147483648 := Nat.lt_of_le_of_lt (rk_le V k) (by decide)
  unfold m_90
  rw [v_rr hv, v_gr hv hk, o_g_t, s_331 hk, o_b1_s, i_cl (by omega), h.2.2.2.2.1 k hk, q_eq h8 (by omega)]
  by_cases h1 : rk V k = pc k
  · rw [if_pos h1, bz_t h1]
  · rw [if_neg h1, bz_f h1]
end
theorem c_182 {p : Prop} [Decidable p] : m_112 (bz p) = some (bz p) := by
  unfold m_112
  rw [q_bz]
  by_cases h : p
  · rw [if_pos h, bz_t h]
  · rw [if_neg h, bz_f h]
theorem c_183_all : ∀ a, a < 256 → ∀ k, k < 9 → m_113 (nI a) (nI k) = some (bz (a.testBit k = true)) := by decide +kernel
theorem c_183 {a k : Nat} (ha : a < 256) (hk : k < 9) : m_113 (nI a) (nI k) = some (bz (a.testBit k = true)) := c_183_all a ha k hk
theorem c_96 {t k : Nat} {L : ai_G} (hk : k < 4) : m_65 2 (nI k) (Rc t) (Gc L) = some (6 + 4 * k) := by
  match k, hk with
  | 0, _ => rfl
  | 1, _ => rfl
  | 2, _ => rfl
  | 3, _ => rfl
theorem c_96o {t : Nat} {L : ai_G} {x : Int32} (h : ¬ (nI 0 ≤ x ∧ x ≤ nI 3)) : m_65 2 x (Rc t) (Gc L) = some 0 := by
  unfold m_65
  by_cases h1 : x < 0
  · rw [if_pos h1]
  · rw [if_neg h1]
    by_cases h2 : nI 4 ≤ x
    · rw [if_pos h2]
    · exfalso
      refine h ⟨Int32.not_lt.1 h1, ?_⟩
      have h3 := Int32.not_le.1 h2
      rw [Int32.lt_iff_toInt_lt] at h3
      rw [Int32.le_iff_toInt_le]
      rw [nI_toInt (by decide)] at h3 ⊢
      omega
