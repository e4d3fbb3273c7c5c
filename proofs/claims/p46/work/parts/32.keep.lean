/-! Out of whole's part 32.keep, by wip/p46/extract.py. -/
theorem cpy0 {f g : Nat → Int32} {n k : Nat} : va_cpy f g 0 0 n k = if k < n then f k else g k := by
  unfold va_cpy
  by_cases h : k < n
  · rw [if_pos h, if_pos ⟨Nat.zero_le _, by omega⟩, Nat.zero_add, Nat.sub_zero]
  · rw [if_neg h, if_neg (fun h2 => h (by omega))]
theorem o_cpy_of {a0 a n m k : Nat} {L : ai_G} (h1 : (Gc L).1 a0 = 13) (h2 : (Gc L).1 a = 13) (h3 : (Gc L).2.1 a0 = n) (h4 : (Gc L).2.1 a = m) (h5 : k ≤ n) (h6 : k ≤ m) (h7 : k < 1000) : o_cpy (Gc L) a0 a (nI 0) (nI 0) (nI k) = true := decide_eq_true ⟨h1, h2, by decide, by decide, nI_pos (by omega), by rw [h3, i_cl (by decide), i_cl (by omega)]; omega, by rw [h4, i_cl (by decide), i_cl (by omega)]; omega⟩
theorem v_kind {v : Nat} {L : ai_G} (hv : v ∈ VC) : ((Gc L).1 (v + 1) = 13 ∧ (Gc L).2.1 (v + 1) = 256) ∧ ((Gc L).1 (v + 2) = 13 ∧ (Gc L).2.1 (v + 2) = 256) ∧ ((Gc L).1 (v + 3) = 13 ∧ (Gc L).2.1 (v + 3) = 70) := by
  have h := vc_all v hv
  have e : ∀ j : Nat, j < 4 → (Gc L).1 (v + j) = kL.getD (v + j) 99 ∧ (Gc L).2.1 (v + j) = nL.getD (v + j) 0 := fun j hj => by
    constructor
    · show (if v + j ≤ 74 then kL.getD (v + j) 99 else L.1 (v + j)) = _
      rw [if_pos (by omega)]
    · show (if v + j ≤ 74 then nL.getD (v + j) 0 else L.2.1 (v + j)) = _
      rw [if_pos (by omega)]
  exact ⟨⟨(e 1 (by decide)).1.trans h.2.1, (e 1 (by decide)).2.trans h.2.2.2.2.1⟩, ⟨(e 2 (by decide)).1.trans h.2.2.1, (e 2 (by decide)).2.trans h.2.2.2.2.2.1⟩, ⟨(e 3 (by decide)).1.trans h.2.2.2.1, (e 3 (by decide)).2.trans h.2.2.2.2.2.2.1⟩⟩
/-- one valuation taken over -/
theorem c_117 {I : ai_I} {t v w n r : Nat} {L : ai_G} {V : Nat → Int32} (hv : v ∈ VC) (hw : w ∈ VC) (hvw : v + 3 < w ∨ w + 3 < v) (hW : WF n r V) (h : CS I w n r V) : ∃ J, m_84 v w I (Rc t) (Gc L) = some J ∧ (∀ c, (c < v ∨ v + 3 < c) → J c = I c) ∧ CS J v n r V := by
  obtain ⟨⟨p1, p2⟩, ⟨p3, p4⟩, p5, p6⟩ := v_kind (L := L) hv
  obtain ⟨⟨q1, q2⟩, ⟨q3, q4⟩, q5, q6⟩ := v_kind (L := L) hw
  have hl := BL_len hW
  obtain ⟨c0, c1, c2, c3, c4, c5⟩ := h
  unfold m_84
  rw [v_kd hw, o_g_t, o_b1_s, o_b1_s, o_b1_s, v_rv hv, v_rv hw, v_rr hv, v_rr hw, v_rb hv, v_rb hw, o_cpy_of q1 p1 q2 p2 (by omega) (by omega) (by decide), o_g_t, o_b1_s, o_cpy_of q3 p3 q4 p4 (by omega) (by omega) (by decide), o_g_t, o_b1_s, o_cpy_of q5 p5 q6 p6 (by omega) (by omega) (by decide), o_g_t, o_b1_s, i_cl (by decide), i_cl (by decide), i_cl (by decide)]
  refine ⟨_, rfl, fun c hc => ?_, ?_, ?_, ?_, fun k hk => ?_, fun k hk => ?_, fun k hk => ?_⟩
  · rw [up_ne (by omega), up_ne (by omega), up_ne (by omega), up_ne (by omega), up_ne (by omega), up_ne (by omega)]
  · rw [up_ne (by omega), up_ne (by omega), up_ne (by omega), up_eq, up_ne (by decide), up_eq, up_ne (by decide), up_eq, up_eq]
    exact c0
  · rw [up_ne (by omega), up_ne (by omega), up_ne (by omega), up_eq, up_ne (by decide), up_eq, up_eq, up_ne (by omega)]
    exact c1
  · rw [up_ne (by omega), up_ne (by omega), up_ne (by omega), up_eq, up_eq, up_ne (by omega), up_ne (by omega)]
    exact c2
  · rw [up_ne (by omega), up_ne (by omega), up_eq, cpy0, if_pos hk, up_ne (by omega), up_ne (by omega), up_ne (by omega)]
    exact c3 k hk
  · rw [up_ne (by omega), up_eq, cpy0, if_pos hk, up_ne (by omega), up_ne (by omega), up_ne (by omega), up_ne (by omega)]
    exact c4 k hk
  · rw [up_eq, cpy0, if_pos (by omega), up_ne (by omega), up_ne (by omega), up_ne (by omega), up_ne (by omega), up_ne (by omega)]
    exact c5 k hk
