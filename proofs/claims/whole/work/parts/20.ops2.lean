/-! Counts of sets: free ones by size, flats, circuits; what was done; prices, the seed. -/
/-- how many of the sets are so -/
def cnt (p : Nat → Bool) (n : Nat) : Nat := ((List.range (2 ^ n)).filter p).length
theorem cnt_le {p : Nat → Bool} {n : Nat} (hn : n ≤ 8) : cnt p n ≤ 256 := by
  have h := List.length_filter_le p (List.range (2 ^ n))
  rw [List.length_range] at h
  exact Nat.le_trans h (p2_le hn)
/-- a loop over places that counts -/
theorem lp_cnt {b : Int32 × Int32 → Option ((Int32 × Int32) ⊕ Int32)} {γ : Type} {g : Int32 → Option γ} {y : Option γ} (p : Nat → Bool) (N : Nat) (hN : N ≤ 256) (hs : ∀ i a, i < N → a ≤ i → b (nI a, nI i) = some (.inl (nI (if p i = true then a + 1 else a), nI (i + 1)))) (he : ∀ a, a ≤ N → b (nI a, nI N) = some (.inr (nI a))) (hy : g (nI ((List.range N).filter p).length) = y) : o_s1 (lp b o_N (nI 0, nI 0)) g = y := by
  refine lp_fd_s1 (fun k a => (nI a, nI k)) (fun k a => if p k = true then a + 1 else a) (fun a => nI a) (fun k a => a ≤ k) N 0 ?_ ?_ (by omega) (by omega) ?_
  · intro i a hi ha
    exact ⟨by split <;> omega, hs i a hi ha⟩
  · intro a ha
    exact he a ha
  · rw [fd_len, Nat.zero_add]
    exact hy
def pFz (V : Nat → Int32) (k x : Nat) : Bool := decide (pc x = k) && decide (rk V x = pc x)
section
variable {I : ai_I} {t L v n r k : Nat} {V : Nat → Int32}
theorem c_69 (hv : v ∈ VC) (hW : WF n r V) (h : CS I v n r V) (hk : k < 2147483648) : m_69 v (nI k) I (Rc t) (Gc L) = some (nI (cnt (pFz V k) n)) := by
  have hn := hW.2.1
  have h8 := p2_le hn
  unfold m_69
  refine lp_cnt (pFz V k) (2 ^ n) h8 ?_ ?_ rfl
  · intro i a hi ha
    show m_69_b4 v (nI k) I (Rc t) (Gc L) (nI a) (nI i) = _
    have hpc := pc_le i
    unfold m_69_b4 m_69_j33
    rw [v_kd hv, o_g_t, c_118 hn h.1, o_b1_s, q_leF (by omega) hi, s_331 (by omega), o_b1_s, q_eq (by omega) hk, c_123 hv h (by omega), o_b1_s, q_bz]
    unfold pFz
    by_cases h1 : pc i = k
    · by_cases h2 : rk V i = pc i
      · rw [if_pos h1, if_pos h2, if_pos (by simp [h1, h2])]
        unfold m_69_j34
        rw [show m_182 (nI 1) = some (nI 1) from rfl, o_b1_s, i_add, o_b1_s, i_add, o_b1_s]
      · rw [if_pos h1, if_neg h2, if_neg (by simp [h2])]
        unfold m_69_j34
        rw [show m_182 (nI 0) = some (nI 0) from rfl, o_b1_s, i_add, o_b1_s, i_add, o_b1_s]
        rfl
    · rw [if_neg h1, if_neg (by simp [h1])]
      unfold m_69_j34
      rw [show m_182 (nI 0) = some (nI 0) from rfl, o_b1_s, i_add, o_b1_s, i_add, o_b1_s]
      rfl
  · intro a ha
    show m_69_b4 v (nI k) I (Rc t) (Gc L) (nI a) (nI (2 ^ n)) = _
    unfold m_69_b4
    rw [v_kd hv, o_g_t, c_118 hn h.1, o_b1_s, q_leT (by omega) (Nat.le_refl _)]
theorem c_68 (hv : v ∈ VC) (hW : WF n r V) (h : CS I v n r V) : m_68 v I (Rc t) (Gc L) = some (nI (cnt (fun x => decide (rk V x = pc x)) n)) := by
  have hn := hW.2.1
  have h8 := p2_le hn
  unfold m_68
  refine lp_cnt (fun x => decide (rk V x = pc x)) (2 ^ n) h8 ?_ ?_ rfl
  · intro i a hi ha
    show m_68_b4 v I (Rc t) (Gc L) (nI a) (nI i) = _
    unfold m_68_b4
    rw [v_kd hv, o_g_t, c_118 hn h.1, o_b1_s, q_leF (by omega) hi, c_123 hv h (by omega), o_b1_s, c_182, o_b1_s]
    by_cases h2 : rk V i = pc i
    · rw [bz_t h2, i_add, o_b1_s, i_add, o_b1_s, if_pos (decide_eq_true h2)]
    · rw [bz_f h2, i_add, o_b1_s, i_add, o_b1_s, if_neg (fun h3 => h2 (of_decide_eq_true h3))]
      rfl
  · intro a ha
    show m_68_b4 v I (Rc t) (Gc L) (nI a) (nI (2 ^ n)) = _
    unfold m_68_b4
    rw [v_kd hv, o_g_t, c_118 hn h.1, o_b1_s, q_leT (by omega) (Nat.le_refl _)]
theorem c_71 (hv : v ∈ VC) (hW : WF n r V) (h : CS I v n r V) : m_71 v I (Rc t) (Gc L) = some (nI (cnt (fun x => decide (clo V n x = x)) n)) := by
  have hn := hW.2.1
  have h8 := p2_le hn
  unfold m_71
  refine lp_cnt (fun x => decide (clo V n x = x)) (2 ^ n) h8 ?_ ?_ rfl
  · intro i a hi ha
    show m_71_b4 v I (Rc t) (Gc L) (nI a) (nI i) = _
    have hc := clo_lt (V := V) (set := i) hn (by omega)
    unfold m_71_b4
    rw [v_kd hv, o_g_t, c_118 hn h.1, o_b1_s, q_leF (by omega) hi, c_70 hv hW h (by omega), o_b1_s, q_eq (by omega) (by omega)]
    unfold m_71_j27
    by_cases h2 : clo V n i = i
    · rw [if_pos h2, show m_182 (nI 1) = some (nI 1) from rfl, o_b1_s, i_add, o_b1_s, i_add, o_b1_s, if_pos (decide_eq_true h2)]
    · rw [if_neg h2, show m_182 (nI 0) = some (nI 0) from rfl, o_b1_s, i_add, o_b1_s, i_add, o_b1_s, if_neg (fun h3 => h2 (of_decide_eq_true h3))]
      rfl
  · intro a ha
    show m_71_b4 v I (Rc t) (Gc L) (nI a) (nI (2 ^ n)) = _
    unfold m_71_b4
    rw [v_kd hv, o_g_t, c_118 hn h.1, o_b1_s, q_leT (by omega) (Nat.le_refl _)]
theorem c_74 (hv : v ∈ VC) (hW : WF n r V) (h : CS I v n r V) : m_74 v I (Rc t) (Gc L) = some (nI (cnt (circ V) n)) := by
  have hn := hW.2.1
  have h8 := p2_le hn
  unfold m_74
  refine lp_cnt (circ V) (2 ^ n) h8 ?_ ?_ rfl
  · intro i a hi ha
    show m_74_b4 v I (Rc t) (Gc L) (nI a) (nI i) = _
    unfold m_74_b4
    rw [v_kd hv, o_g_t, c_118 hn h.1, o_b1_s, q_leF (by omega) hi, c_73 hv hW h hi, o_b1_s, c_182, o_b1_s]
    by_cases h2 : circ V i = true
    · rw [bz_t h2, i_add, o_b1_s, i_add, o_b1_s, if_pos h2]
    · rw [bz_f h2, i_add, o_b1_s, i_add, o_b1_s, if_neg h2]
      rfl
  · intro a ha
    show m_74_b4 v I (Rc t) (Gc L) (nI a) (nI (2 ^ n)) = _
    unfold m_74_b4
    rw [v_kd hv, o_g_t, c_118 hn h.1, o_b1_s, q_leT (by omega) (Nat.le_refl _)]
end
section
variable {I : ai_I} {t L s n : Nat}
/-- the reference's counts: what 0 free, 1 flats, 2 circuits -/
theorem s_258 (hs : s < 12) (hn : n ≤ 8) (h : I 76 (258 * s) = nI n) (w : Nat) (p : Nat → Bool) (hw : (w = 0 ∧ p = fun x => decide (rk (FV I s) x = pc x)) ∨ (w = 1 ∧ p = fun x => decide (clo (FV I s) n x = x)) ∨ (w = 2 ∧ p = circ (FV I s))) : m_258 75 (nI s) (nI w) I (Rc t) (Gc L) = some (nI (cnt p n)) := by
  have h8 := p2_le hn
  have h0 := Nat.two_pow_pos n
  unfold m_258
  refine lp_cnt p (2 ^ n) h8 ?_ ?_ rfl
  · intro i a hi ha
    show m_258_b5 75 (nI s) (nI w) I (Rc t) (Gc L) (nI a) (nI i) = _
    unfold m_258_b5 m_258_j60
    rw [s_197 hs hn h, o_b1_s, q_ltF (by omega) (by omega), s_252 hs (by omega), s_253 hs hn h (by omega), s_254 hs (by omega)]
    simp only [q_bz, o_b1_s, i_add]
    rcases hw with ⟨rfl, rfl⟩ | ⟨rfl, rfl⟩ | ⟨rfl, rfl⟩
    · rw [q_00]
      by_cases h2 : rk (FV I s) i = pc i
      · rw [if_pos h2, if_pos (decide_eq_true h2)]
      · rw [if_neg h2, if_neg (fun h3 => h2 (of_decide_eq_true h3))]
    · rw [q_10, if_pos rfl]
      by_cases h2 : clo (FV I s) n i = i
      · rw [if_pos h2, if_pos (decide_eq_true h2)]
      · rw [if_neg h2, if_neg (fun h3 => h2 (of_decide_eq_true h3))]
    · rw [if_neg (by decide), if_neg (by decide)]
      by_cases h2 : circ (FV I s) i = true
      · rw [if_pos h2, if_pos h2]
      · rw [if_neg h2, if_neg h2]
  · intro a ha
    show m_258_b5 75 (nI s) (nI w) I (Rc t) (Gc L) (nI a) (nI (2 ^ n)) = _
    unfold m_258_b5
    rw [s_197 hs hn h, o_b1_s, q_ltT (by omega) (by omega)]
end
theorem op_sized {I : ai_I} {t L : Nat} (h : ST I) (s x : Int32) : OPr (m_159 1 s x I (Rc t) (Gc L)) (m_291 75 s x I (Rc t) (Gc L)) := by
  unfold m_159 m_291
  rw [r_1_0, k_2, o_g_t, s_200, o_b1_s, q_bz]
  rcases x_cases s (n := 3) (by decide) with ⟨k, hk, rfl⟩ | hs
  · rw [c_96 (by omega), o_b1_s, if_neg (by omega), if_pos (nI_in03 hk)]
    obtain ⟨n, r, hW, hC, hI, -⟩ := h.1 k (by omega)
    have hn := hW.2.1
    have h8 := p2_le hn
    have h0 := Nat.two_pow_pos n
    have hv := vc_s (s := k) (by omega)
    rw [v_kd hv, o_g_t, hC.1, s_195 (by omega), o_b1_s, hI, j_lit.2.1, s_189i, o_b1_s, q_bz]
    rcases x_cases x (n := n) (by omega) with ⟨j, hj, rfl⟩ | hx
    · rw [q_n0 (by omega), q_leT (by omega) hj, c_69 hv hW hC (by omega), o_b1_s, if_pos ⟨nI_le (by omega) (by omega), nI_le hj (by omega)⟩]
      refine ⟨_, rfl, ?_⟩
      refine lp_cnt (pFz (FV I k) j) (2 ^ n) h8 ?_ ?_ rfl
      · intro i a hi ha
        show m_291_b29 75 (nI k) (nI j) I (Rc t) (Gc L) (nI a) (nI i) = _
        have hpc := pc_le i
        unfold m_291_b29 pFz
        rw [s_197 (by omega) hn hI, o_b1_s, q_ltF (by omega) (by omega), s_193 (by omega), o_b1_s, q_eq (by omega) (by omega), s_252 (by omega) (by omega), o_b1_s, q_bz, o_b1_s, i_add, o_b1_s, i_add, o_b1_s]
        by_cases h1 : pc i = j
        · by_cases h2 : rk (FV I k) i = pc i
          · rw [if_pos h1, if_pos h2, if_pos (by simp [h1, h2])]
          · rw [if_pos h1, if_neg h2, if_neg (by simp [h2])]
        · rw [if_neg h1, if_neg (by simp [h1])]
      · intro a ha
        show m_291_b29 75 (nI k) (nI j) I (Rc t) (Gc L) (nI a) (nI (2 ^ n)) = _
        unfold m_291_b29
        rw [s_197 (by omega) hn hI, o_b1_s, q_ltT (by omega) (by omega)]
    · rw [if_neg hx]
      refine ⟨_, ?_, rfl⟩
      by_cases h1 : x < 0
      · rw [if_pos h1]
      · rw [if_neg h1, if_neg (fun h2 => hx ⟨Int32.not_lt.1 h1, h2⟩)]
  · rw [c_96o hs, o_b1_s, if_pos rfl, if_neg hs]
    exact ⟨_, rfl, rfl⟩
/-- an op that may write: the same answer, what holds goes on holding -/
def OPw (I : ai_I) (x : Option (Int32 × ai_I)) (y : ai_I → Option (Int32 × ai_I)) : Prop := ∃ r I1 I2, x = some (r, I1) ∧ y I1 = some (r, I2) ∧ ST I2 ∧ I2 1999 = I1 1999 ∧ I1 1999 = I 1999
theorem op_past {I : ai_I} {t L : Nat} (h : ST I) (x y : Int32) : OPr (m_174 1 x y I (Rc t) (Gc L)) (m_243 75 x y I (Rc t) (Gc L)) := by
  obtain ⟨m, hm, h1, h2, h3⟩ := h.2.2.2.2.1
  unfold m_174 m_243
  rw [r_1_0, k_2, o_g_t, h1, r_75_0, g_76 (by decide), o_g_t, i_cl (by decide), h2, j_lit.2.1, j_lit.2.2, s_189i, s_189i, o_b1_s, o_b1_s, q_bz, q_bz, o_g_t]
  by_cases hx : x < 0
  · rw [if_pos hx, if_neg (fun h4 => Int32.not_le.2 hx h4.1)]
    exact ⟨_, rfl, rfl⟩
  · obtain ⟨j, hj, rfl⟩ := nI_of hx
    rw [if_neg hx, q_le (by omega) hj]
    by_cases hjm : m ≤ j
    · rw [if_pos hjm, if_neg (fun h4 => ?_)]
      · exact ⟨_, rfl, rfl⟩
      · have h5 := h4.2
        match m, hm, hjm, h5 with
        | 0, _, _, h5 =>
          rw [Int32.le_iff_toInt_le, nI_toInt hj, show (nI 0 - nI 1).toInt = -1 from by decide] at h5
          omega
        | m + 1, hm, hjm, h5 =>
          rw [i_sub (by omega), i_le hj (by omega)] at h5
          omega
    · rw [if_neg hjm, i_sub (by omega), if_pos (show nI 0 ≤ nI j ∧ nI j ≤ nI (m - 1) from ⟨nI_le (by omega) hj, nI_le (by omega) (by omega)⟩)]
      rcases x_cases y (n := 3) (by decide) with ⟨c, hc, rfl⟩ | hy
      · rw [q_n0 (by omega), q_leT (by decide) hc, if_pos (show nI 0 ≤ nI c ∧ nI c ≤ nI 3 from ⟨nI_le (by omega) (by omega), nI_le hc (by omega)⟩), r_2_2, i_mul, i_add, i_sub (by omega), i_mul, i_add, i_add, g_5 (by omega), g_76 (by omega), o_g_t, o_g_t, i_cl (by omega), i_cl (by omega)]
        refine ⟨_, rfl, ?_⟩
        have h6 := h3 j (by omega) c (by omega)
        rw [show j * 4 + c = 4 * j + c by omega, h6]
      · rw [if_neg hy]
        refine ⟨_, ?_, rfl⟩
        by_cases h4 : y < 0
        · rw [if_pos h4]
        · rw [if_neg h4, if_neg (fun h5 => hy ⟨Int32.not_lt.1 h4, h5⟩)]
