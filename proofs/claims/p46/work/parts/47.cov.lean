/-! Out of whole's part 47.cov, by wip/p46/extract.py. -/
theorem sub_tb {a b : Nat} : a &&& b = a ↔ ∀ i, a.testBit i = true → b.testBit i = true := by
  constructor
  · intro h i hi
    rw [← h, Nat.testBit_and, Bool.and_eq_true] at hi
    exact hi.2
  · intro h
    apply Nat.eq_of_testBit_eq
    intro i
    rw [Nat.testBit_and]
    cases c : a.testBit i
    · rfl
    · rw [h i c]
      rfl
theorem BL_ix {V : Nat → Int32} {b : Nat} (h : b ∈ BL V) : ∃ p, p < (BL V).length ∧ (BL V).getD p 0 = b := by
  obtain ⟨p, hp, e⟩ := List.getElem_of_mem h
  exact ⟨p, hp, by rw [List.getD_eq_getElem?_getD, List.getElem?_eq_getElem hp, e]; rfl⟩
theorem BL_in {V : Nat → Int32} {p : Nat} (hp : p < (BL V).length) : (BL V).getD p 0 ∈ BL V := by
  rw [List.getD_eq_getElem?_getD, List.getElem?_eq_getElem hp]
  exact List.getElem_mem hp
theorem all_tb {n i : Nat} : (2 ^ n - 1).testBit i = true ↔ i < n := by
  rw [Nat.testBit_two_pow_sub_one]
  exact decide_eq_true_iff
/-- loops -/
def lps (V : Nat → Int32) (n : Nat) : Nat := fd (fun b a => sd a b) (BL V) (2 ^ n - 1)
theorem lps_tb' (i : Nat) : ∀ (l : List Nat) (a : Nat), (fd (fun b a => sd a b) l a).testBit i = true ↔ a.testBit i = true ∧ ∀ b ∈ l, b.testBit i = false
  | [], a => ⟨fun h => ⟨h, fun b hb => absurd hb (List.not_mem_nil)⟩, fun h => h.1⟩
  | x :: l, a => by
    show (fd (fun b a => sd a b) l (sd a x)).testBit i = true ↔ _
    rw [lps_tb' i l (sd a x), sd_bit, Bool.and_eq_true, Bool.not_eq_true']
    constructor
    · rintro ⟨⟨h1, h2⟩, h3⟩
      refine ⟨h1, fun b hb => ?_⟩
      rcases List.mem_cons.1 hb with rfl | hb
      · exact h2
      · exact h3 b hb
    · rintro ⟨h1, h2⟩
      exact ⟨⟨h1, h2 x (List.mem_cons_self ..)⟩, fun b hb => h2 b (List.mem_cons_of_mem _ hb)⟩
theorem lps_tb {V : Nat → Int32} {n i : Nat} : (lps V n).testBit i = true ↔ i < n ∧ ∀ b ∈ BL V, b.testBit i = false := by
  unfold lps
  rw [lps_tb', all_tb]
theorem c_66 {I : ai_I} {t v n r : Nat} {L : ai_G} {V : Nat → Int32} (hv : v ∈ VC) (hW : WF n r V) (h : CS I v n r V) : m_48 v I (Rc t) (Gc L) = some (nI (lps V n)) := by
  have hn := hW.2.1
  have h8 := p2_le hn
  have h0 := Nat.two_pow_pos n
  have hl := BL_len hW
  unfold m_48
  rw [v_kd hv, o_g_t, c_119 hn h.1, o_b1_s]
  refine lp_fd_s1 (fun k a => (nI a, nI k)) (fun k a => sd a ((BL V).getD k 0)) (fun a => nI a) (fun _ a => a < 256) (BL V).length (2 ^ n - 1) ?_ ?_ (by omega) (by omega) ?_
  · intro k a hk ha
    have hb := BL_at hk
    refine ⟨sd_lt ha, ?_⟩
    simp (disch := omega) only [if_pos, if_neg, o_b1_s, o_b2_s, o_b3_s, o_b4_s, o_s1_s, o_s2_l, o_s2_r, o_g_t, i_add, i_mul, i_sub, i_and, i_or, i_xor, i_sd, i_shl, Nat.one_mul, i_eq, i_lt, i_le, i_n0, i_0le, i_e0, i_0lt, i_le0, i_cl, bz_0, wp_s, lq_l, lq_r, if_true, if_false, ite_not, true_and, and_true, m_48_b7, h.2.2.1, v_rb hv, v_gb hv, h.2.2.2.2.2]
  · intro a ha
    simp (disch := omega) only [if_pos, if_neg, o_b1_s, o_b2_s, o_b3_s, o_b4_s, o_s1_s, o_s2_l, o_s2_r, o_g_t, i_add, i_mul, i_sub, i_and, i_or, i_xor, i_sd, i_shl, Nat.one_mul, i_eq, i_lt, i_le, i_n0, i_0le, i_e0, i_0lt, i_le0, i_cl, bz_0, wp_s, lq_l, lq_r, if_true, if_false, ite_not, true_and, and_true, m_48_b7, h.2.2.1]
  · rw [show fd (fun k a => sd a ((BL V).getD k 0)) (List.range (BL V).length) (2 ^ n - 1) = fd (fun b a => sd a b) (BL V) (2 ^ n - 1) from fd_get (fun b a => sd a b) 0 (BL V) _]
    rfl
