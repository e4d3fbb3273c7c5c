/-! Calls that only read: rank, closure, base, circuit, sized. -/
/-- the k-th of a list, or -4 -/
def nthE (l : List Nat) (k : Nat) : Int32 := match l[k]? with
  | some x => nI x
  | none => -4
theorem in_p {j n : Nat} (hn : n ≤ 8) (hj : j ≤ 2 ^ n - 1) : (nI 0 ≤ nI j ∧ nI j ≤ nI (2 ^ n - 1)) ∧ j < 256 ∧ j < 2 ^ n := by
  have h8 := p2_le hn
  have h0 := Nat.two_pow_pos n
  exact ⟨⟨nI_le (by omega) (by omega), nI_le hj (by omega)⟩, by omega, by omega⟩
theorem p2_big {n : Nat} (hn : n ≤ 8) : 2 ^ n - 1 < 2147483648 := by
  have h8 := p2_le hn
  omega
theorem op_rank {I : ai_I} {t L : Nat} (h : ST I) (s x : Int32) : OPr (m_147 1 s x I (Rc t) (Gc L)) (m_255 75 s x I (Rc t) (Gc L)) := by
  unfold m_147 m_255
  rw [r_1_0, k_2, o_g_t, s_200, o_b1_s, q_bz]
  rcases x_cases s (n := 3) (by decide) with ⟨k, hk, rfl⟩ | hs
  · rw [c_96 (by omega), o_b1_s, if_neg (by omega), if_pos (nI_in03 hk)]
    obtain ⟨n, r, hW, hC, hI, -⟩ := h.1 k (by omega)
    have hn := hW.2.1
    have hv := vc_s (s := k) (by omega)
    rw [v_kd hv, o_g_t, c_121' hn hC.1, s_201 (by omega) hn hI, o_b1_s, o_b1_s, q_bz, q_bz]
    rcases x_cases x (p2_big hn) with ⟨j, hj, rfl⟩ | hx
    · obtain ⟨hin, hj2, -⟩ := in_p hn hj
      rw [if_pos hin, if_pos hin, v_rr hv, v_gr hv hj2, o_g_t, i_cl (by omega), hC.2.2.2.2.1 j hj2, s_250 (by omega) hj2, o_b1_s]
      exact ⟨_, rfl, rfl⟩
    · rw [if_neg hx, if_neg hx]
      exact ⟨_, rfl, rfl⟩
  · rw [c_96o hs, o_b1_s, if_pos rfl, if_neg hs]
    exact ⟨_, rfl, rfl⟩
theorem op_closure {I : ai_I} {t L : Nat} (h : ST I) (s x : Int32) : OPr (m_148 1 s x I (Rc t) (Gc L)) (m_256 75 s x I (Rc t) (Gc L)) := by
  unfold m_148 m_256
  rw [r_1_0, k_2, o_g_t, s_200, o_b1_s, q_bz]
  rcases x_cases s (n := 3) (by decide) with ⟨k, hk, rfl⟩ | hs
  · rw [c_96 (by omega), o_b1_s, if_neg (by omega), if_pos (nI_in03 hk)]
    obtain ⟨n, r, hW, hC, hI, -⟩ := h.1 k (by omega)
    have hn := hW.2.1
    have hv := vc_s (s := k) (by omega)
    rw [v_kd hv, o_g_t, c_121' hn hC.1, s_201 (by omega) hn hI, o_b1_s, o_b1_s, q_bz, q_bz]
    rcases x_cases x (p2_big hn) with ⟨j, hj, rfl⟩ | hx
    · obtain ⟨hin, hj2, -⟩ := in_p hn hj
      rw [if_pos hin, if_pos hin, c_70 hv hW hC hj2, s_251 (by omega) hn hI hj2, o_b1_s]
      exact ⟨_, rfl, rfl⟩
    · rw [if_neg hx, if_neg hx]
      exact ⟨_, rfl, rfl⟩
  · rw [c_96o hs, o_b1_s, if_pos rfl, if_neg hs]
    exact ⟨_, rfl, rfl⟩
theorem s_264 {I : ai_I} {t L s j : Nat} (hs : s < 4) (hj : j < 2147483648) : m_264 75 (nI s) (nI j) I (Rc t) (Gc L) = some (nthE (BL (FV I s)) j) := by
  unfold m_264
  rw [s_200, o_b1_s, q_bz, if_pos (nI_in03 (by omega)), q_p0 hj, lp_fs_o (fun i a => (nI a, nI i)) (fun x m => if decide (FV I s x ≠ NO) = true then (if m = j then .inr (.inl (nI x)) else .inl (m + 1)) else .inl m) (fun _ => .inr ()) (fun i m => m ≤ i) 256 0 ?_ ?_ (by omega) (by omega), nth_up (fun x => decide (FV I s x ≠ NO)) (fun x => (Sum.inl (nI x) : Int32 ⊕ Unit)) j (List.range 256) 0 (Nat.zero_le _)]
  · unfold nthE
    rw [Nat.sub_zero, show List.filter (fun x => decide (FV I s x ≠ NO)) (List.range 256) = BL (FV I s) from rfl]
    cases (BL (FV I s))[j]? <;> rfl
  · intro x m hx hm
    have key : m_264_b18 75 (nI s) (nI j) I (Rc t) (Gc L) (nI m) (nI x) = some (match (if decide (FV I s x ≠ NO) = true then (if m = j then .inr (.inl (nI x)) else .inl (m + 1)) else .inl m : Nat ⊕ (Int32 ⊕ Unit)) with
      | .inl a2 => .inl (nI a2, nI (x + 1))
      | .inr r => .inr r) := by
      unfold m_264_b18
      rw [q_leF (by omega) hx, s_199 (by omega) hx, o_b1_s, q_bz, q_eq (by omega) hj, o_b1_s, i_add, o_b1_s, i_add, o_b1_s]
      by_cases hV : FV I s x ≠ NO
      · rw [if_pos hV, if_pos (decide_eq_true hV)]
        by_cases hm2 : m = j
        · rw [if_pos hm2, if_pos hm2]
        · rw [if_neg hm2, if_neg hm2]
      · rw [if_neg hV, if_neg (fun h2 => hV (of_decide_eq_true h2))]
    refine ⟨fun a2 e => ⟨?_, ?_⟩, fun r e => ?_⟩
    · split at e
      · split at e
        · cases e
        · cases e
          omega
      · cases e
        omega
    · show m_264_b18 75 (nI s) (nI j) I (Rc t) (Gc L) (nI m) (nI x) = _
      rw [key, e]
    · show m_264_b18 75 (nI s) (nI j) I (Rc t) (Gc L) (nI m) (nI x) = _
      rw [key, e]
  · intro m hm
    show m_264_b18 75 (nI s) (nI j) I (Rc t) (Gc L) (nI m) (nI 256) = _
    unfold m_264_b18
    rw [q_leT (by decide) (Nat.le_refl _)]
theorem op_base {I : ai_I} {t L : Nat} (h : ST I) (s x : Int32) : OPr (m_144 1 s x I (Rc t) (Gc L)) (m_264 75 s x I (Rc t) (Gc L)) := by
  by_cases hx : x < 0
  · unfold m_144 m_264
    rw [r_1_0, k_2, o_g_t, s_200, o_b1_s, q_bz]
    rcases x_cases s (n := 3) (by decide) with ⟨k, hk, rfl⟩ | hs
    · rw [c_96 (by omega), o_b1_s, if_neg (by omega), if_pos (nI_in03 hk), if_neg (Int32.not_le.2 hx), if_neg (Int32.not_le.2 hx)]
      exact ⟨_, rfl, rfl⟩
    · rw [c_96o hs, o_b1_s, if_pos rfl, if_neg hs]
      exact ⟨_, rfl, rfl⟩
  · obtain ⟨j, hj, rfl⟩ := nI_of hx
    rcases x_cases s (n := 3) (by decide) with ⟨k, hk, rfl⟩ | hs
    · obtain ⟨n, r, hW, hC, hI, -⟩ := h.1 k (by omega)
      have hv := vc_s (s := k) (by omega)
      have hl := BL_len hW
      rw [s_264 (by omega) hj]
      unfold m_144
      rw [r_1_0, k_2, o_g_t, c_96 (by omega), o_b1_s, if_neg (by omega), q_p0 hj, v_kd hv, o_g_t, hC.2.2.1, q_le (by omega) hj]
      refine ⟨_, ?_, rfl⟩
      unfold nthE
      by_cases hjl : (BL (FV I k)).length ≤ j
      · rw [if_pos hjl, List.getElem?_eq_none hjl]
      · rw [if_neg hjl, v_rb hv, v_gb hv (by omega), o_g_t, i_cl hj, hC.2.2.2.2.2 j (by omega), List.getD_eq_getElem?_getD, List.getElem?_eq_getElem (by omega)]
        rfl
    · unfold m_144 m_264
      rw [r_1_0, k_2, o_g_t, s_200, o_b1_s, q_bz, c_96o hs, o_b1_s, if_pos rfl, if_neg hs]
      exact ⟨_, rfl, rfl⟩
theorem op_circuit {I : ai_I} {t L : Nat} (h : ST I) (s x : Int32) : OPr (m_149 1 s x I (Rc t) (Gc L)) (m_257 75 s x I (Rc t) (Gc L)) := by
  unfold m_149 m_257
  rw [r_1_0, k_2, o_g_t, s_200, o_b1_s, q_bz]
  rcases x_cases s (n := 3) (by decide) with ⟨k, hk, rfl⟩ | hs
  · rw [c_96 (by omega), o_b1_s, if_neg (by omega), if_pos (nI_in03 hk)]
    by_cases hx : x < 0
    · rw [if_neg (Int32.not_le.2 hx), if_neg (Int32.not_le.2 hx)]
      exact ⟨_, rfl, rfl⟩
    · obtain ⟨j, hj, rfl⟩ := nI_of hx
      obtain ⟨n, r, hW, hC, hI, -⟩ := h.1 k (by omega)
      have hn := hW.2.1
      have h8 := p2_le hn
      have h0 := Nat.two_pow_pos n
      have hv := vc_s (s := k) (by omega)
      rw [q_p0 hj, q_p0 hj]
      have hc : m_75 (6 + 4 * k) (nI j) I (Rc t) (Gc L) = some (nthE ((List.range (2 ^ n)).filter (circ (FV I k))) j) := by
        unfold m_75
        rw [lp_fs_o (fun i a => (nI a, nI i)) (fun x m => if circ (FV I k) x = true then (if m = 0 then .inr (.inl (nI x)) else .inl (m - 1)) else .inl m) (fun _ => .inr ()) (fun i m => m < 2147483648) (2 ^ n) j ?_ ?_ hj (by omega), nth_dn (circ (FV I k)) (fun x => (Sum.inl (nI x) : Int32 ⊕ Unit))]
        · unfold nthE
          cases ((List.range (2 ^ n)).filter (circ (FV I k)))[j]? <;> rfl
        · intro x m hx hm
          have key : m_75_b4 (6 + 4 * k) I (Rc t) (Gc L) (nI m) (nI x) = some (match (if circ (FV I k) x = true then (if m = 0 then .inr (.inl (nI x)) else .inl (m - 1)) else .inl m : Nat ⊕ (Int32 ⊕ Unit)) with
            | .inl a2 => .inl (nI a2, nI (x + 1))
            | .inr r => .inr r) := by
            unfold m_75_b4
            rw [v_kd hv, o_g_t, c_118 hn hC.1, o_b1_s, q_leF (by omega) hx, c_73 hv hW hC hx, o_b1_s, q_bz, q_e0 hm, o_b1_s, i_add, o_b1_s, o_b1_s]
            by_cases hV : circ (FV I k) x = true
            · rw [if_pos hV, if_pos hV]
              by_cases hm2 : m = 0
              · rw [if_pos hm2, if_pos hm2]
              · obtain ⟨m2, rfl⟩ : ∃ m2, m = m2 + 1 := ⟨m - 1, by omega⟩
                rw [if_neg hm2, if_neg hm2, i_dec]
                rfl
            · rw [if_neg hV, if_neg hV]
          refine ⟨fun a2 e => ⟨?_, ?_⟩, fun r e => ?_⟩
          · split at e
            · split at e
              · cases e
              · cases e
                omega
            · cases e
              omega
          · show m_75_b4 (6 + 4 * k) I (Rc t) (Gc L) (nI m) (nI x) = _
            rw [key, e]
          · show m_75_b4 (6 + 4 * k) I (Rc t) (Gc L) (nI m) (nI x) = _
            rw [key, e]
        · intro m hm
          show m_75_b4 (6 + 4 * k) I (Rc t) (Gc L) (nI m) (nI (2 ^ n)) = _
          unfold m_75_b4
          rw [v_kd hv, o_g_t, c_118 hn hC.1, o_b1_s, q_leT (by omega) (Nat.le_refl _)]
      rw [hc, o_b1_s]
      refine ⟨_, rfl, ?_⟩
      rw [lp_fs_o (fun i a => (nI a, nI i)) (fun x m => if circ (FV I k) x = true then (if m = j then .inr (.inl (nI x)) else .inl (m + 1)) else .inl m) (fun _ => .inr ()) (fun i m => m ≤ i) (2 ^ n) 0 ?_ ?_ (by omega) (by omega), nth_up (circ (FV I k)) (fun x => (Sum.inl (nI x) : Int32 ⊕ Unit)) j (List.range (2 ^ n)) 0 (Nat.zero_le _)]
      · unfold nthE
        rw [Nat.sub_zero]
        cases ((List.range (2 ^ n)).filter (circ (FV I k)))[j]? <;> rfl
      · intro x m hx hm
        have key : m_257_b18 75 (nI k) (nI j) I (Rc t) (Gc L) (nI m) (nI x) = some (match (if circ (FV I k) x = true then (if m = j then .inr (.inl (nI x)) else .inl (m + 1)) else .inl m : Nat ⊕ (Int32 ⊕ Unit)) with
          | .inl a2 => .inl (nI a2, nI (x + 1))
          | .inr r => .inr r) := by
          unfold m_257_b18
          rw [s_197 (by omega) hn hI, o_b1_s, q_ltF (by omega) (by omega), s_254 (by omega) (by omega), o_b1_s, q_bz, q_eq (by omega) hj, o_b1_s, i_add, o_b1_s, i_add, o_b1_s]
          by_cases hV : circ (FV I k) x = true
          · rw [if_pos hV, if_pos hV]
            by_cases hm2 : m = j
            · rw [if_pos hm2, if_pos hm2]
            · rw [if_neg hm2, if_neg hm2]
          · rw [if_neg hV, if_neg hV]
        refine ⟨fun a2 e => ⟨?_, ?_⟩, fun r e => ?_⟩
        · split at e
          · split at e
            · cases e
            · cases e
              omega
          · cases e
            omega
        · show m_257_b18 75 (nI k) (nI j) I (Rc t) (Gc L) (nI m) (nI x) = _
          rw [key, e]
        · show m_257_b18 75 (nI k) (nI j) I (Rc t) (Gc L) (nI m) (nI x) = _
          rw [key, e]
      · intro m hm
        show m_257_b18 75 (nI k) (nI j) I (Rc t) (Gc L) (nI m) (nI (2 ^ n)) = _
        unfold m_257_b18
        rw [s_197 (by omega) hn hI, o_b1_s, q_ltT (by omega) (by omega)]
  · rw [c_96o hs, o_b1_s, if_pos rfl, if_neg hs]
    exact ⟨_, rfl, rfl⟩
