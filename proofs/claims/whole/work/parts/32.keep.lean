/-! Calls keep, undo. -/
theorem cpy0 {f g : Nat → Int32} {n k : Nat} : va_cpy f g 0 0 n k = if k < n then f k else g k := by
  unfold va_cpy
  by_cases h : k < n
  · rw [if_pos h, if_pos ⟨Nat.zero_le _, by omega⟩, Nat.zero_add, Nat.sub_zero]
  · rw [if_neg h, if_neg (fun h2 => h (by omega))]
theorem o_cpy_of {L a0 a n m k : Nat} (h1 : (Gc L).1 a0 = 13) (h2 : (Gc L).1 a = 13) (h3 : (Gc L).2.1 a0 = n) (h4 : (Gc L).2.1 a = m) (h5 : k ≤ n) (h6 : k ≤ m) (h7 : k < 1000) : o_cpy (Gc L) a0 a (nI 0) (nI 0) (nI k) = true := decide_eq_true ⟨h1, h2, by decide, by decide, nI_pos (by omega), by rw [h3, i_cl (by decide), i_cl (by omega)]; omega, by rw [h4, i_cl (by decide), i_cl (by omega)]; omega⟩
theorem v_kind {v L : Nat} (hv : v ∈ VC) : ((Gc L).1 (v + 1) = 13 ∧ (Gc L).2.1 (v + 1) = 256) ∧ ((Gc L).1 (v + 2) = 13 ∧ (Gc L).2.1 (v + 2) = 256) ∧ ((Gc L).1 (v + 3) = 13 ∧ (Gc L).2.1 (v + 3) = 70) := by
  have h := vc_all v hv
  have e : ∀ j : Nat, j < 4 → (Gc L).1 (v + j) = kL.getD (v + j) 99 ∧ (Gc L).2.1 (v + j) = nL.getD (v + j) 0 := fun j hj => by
    constructor
    · show (if v + j = 1999 then 16 else kL.getD (v + j) 99) = _
      rw [if_neg (by omega)]
    · show (if v + j = 1999 then L else nL.getD (v + j) 0) = _
      rw [if_neg (by omega)]
  exact ⟨⟨(e 1 (by decide)).1.trans h.2.1, (e 1 (by decide)).2.trans h.2.2.2.2.1⟩, ⟨(e 2 (by decide)).1.trans h.2.2.1, (e 2 (by decide)).2.trans h.2.2.2.2.2.1⟩, ⟨(e 3 (by decide)).1.trans h.2.2.2.1, (e 3 (by decide)).2.trans h.2.2.2.2.2.2.1⟩⟩
/-- one valuation taken over -/
theorem c_117 {I : ai_I} {t L v w n r : Nat} {V : Nat → Int32} (hv : v ∈ VC) (hw : w ∈ VC) (hvw : v + 3 < w ∨ w + 3 < v) (hW : WF n r V) (h : CS I w n r V) : ∃ J, m_117 v w I (Rc t) (Gc L) = some J ∧ (∀ c, (c < v ∨ v + 3 < c) → J c = I c) ∧ CS J v n r V := by
  obtain ⟨⟨p1, p2⟩, ⟨p3, p4⟩, p5, p6⟩ := v_kind (L := L) hv
  obtain ⟨⟨q1, q2⟩, ⟨q3, q4⟩, q5, q6⟩ := v_kind (L := L) hw
  have hl := BL_len hW
  obtain ⟨c0, c1, c2, c3, c4, c5⟩ := h
  unfold m_117
  rw [v_kd hw, o_g_t, o_b1_s, o_b1_s, o_b1_s, v_rv hv, v_rv hw, v_rr hv, v_rr hw, v_rb hv, v_rb hw, o_cpy_of q1 p1 q2 p2 (by omega) (by omega) (by decide), o_g_t, o_b1_s, o_cpy_of q3 p3 q4 p4 (by omega) (by omega) (by decide), o_g_t, o_b1_s, o_cpy_of q5 p5 q6 p6 (by omega) (by omega) (by decide), o_g_t, o_b1_s, i_cl (by decide), i_cl (by decide), i_cl (by decide)]
  refine ⟨_, rfl, fun c hc => ?_, ?_, ?_, ?_, fun k hk => ?_, fun k hk => ?_, fun k hk => ?_⟩
  · rw [up_ne (by omega), up_ne (by omega), up_ne (by omega), up_ne (by omega), up_ne (by omega), up_ne (by omega)]
  · rw [up_ne (by omega), up_ne (by omega), up_ne (by omega), up_eq, up_ne (by decide), up_eq, up_ne (by decide), up_eq, up_eq]
    exact c0
  · rw [up_ne (by omega), up_ne (by omega), up_ne (by omega), up_eq, up_ne (by decide), up_eq, up_eq, up_ne (by omega)]
    exact c1
  · rw [up_ne (by omega), up_ne (by omega), up_ne (by omega), up_eq, up_eq, up_ne (by omega), up_ne (by omega)]
    exact c2
  · rw [up_ne (by omega), up_ne (by omega), up_eq, cpy0, if_pos hk, up_ne (by omega), up_ne (by omega), up_ne (by omega)]
    exact c3 k hk
  · rw [up_ne (by omega), up_eq, cpy0, if_pos hk, up_ne (by omega), up_ne (by omega), up_ne (by omega), up_ne (by omega)]
    exact c4 k hk
  · rw [up_eq, cpy0, if_pos (by omega), up_ne (by omega), up_ne (by omega), up_ne (by omega), up_ne (by omega), up_ne (by omega)]
    exact c5 k hk
theorem vc_k {s : Nat} (h : s < 4) : 26 + 4 * s ∈ VC := by
  match s, h with
  | 0, _ => decide
  | 1, _ => decide
  | 2, _ => decide
  | 3, _ => decide
/-- a state taken over: th the one that takes (2 or 22), o the other -/
theorem c_100 {I : ai_I} {t L th o : Nat} {N R : Nat → Nat} {V : Nat → Nat → Int32} (ht : (th = 2 ∧ o = 22) ∨ (th = 22 ∧ o = 2)) (h : ∀ s, s < 4 → WF (N s) (R s) (V s) ∧ CS I (o + 4 + 4 * s) (N s) (R s) (V s)) : ∃ J, m_100 th o I (Rc t) (Gc L) = some J ∧ (∀ c, (c < th ∨ th + 20 ≤ c) → J c = I c) ∧ (∀ s, s < 4 → CS J (th + 4 + 4 * s) (N s) (R s) (V s)) ∧ (∀ e, e < 8 → J (th + 2) e = I (o + 2) e) ∧ (∀ e, e < 80 → J (th + 3) e = I (o + 3) e) ∧ J th 3 = I o 3 ∧ J th 4 = I o 4 := by
  have hvc : ∀ s, s < 4 → th + 4 + 4 * s ∈ VC ∧ o + 4 + 4 * s ∈ VC := fun s hs => by
    have e1 := vc_s hs
    have e2 := vc_k hs
    rcases ht with ⟨rfl, rfl⟩ | ⟨rfl, rfl⟩
    · exact ⟨e1, e2⟩
    · exact ⟨e2, e1⟩
  unfold m_100
  obtain ⟨J, ⟨j1, j2⟩, j3⟩ := lp_ex (b := fun q => m_100_b2 th o (Rc t) (Gc L) q.1 q.2) (fun k (J : ai_I) => (nI k, J)) (fun J => J) (fun k J => (∀ c, (c < th + 4 ∨ th + 4 + 4 * k ≤ c) → J c = I c) ∧ ∀ s, s < k → CS J (th + 4 + 4 * s) (N s) (R s) (V s)) 4 (fun i J hi hJ => by
    obtain ⟨f1, f2⟩ := hJ
    have hC : CS J (o + 4 + 4 * i) (N i) (R i) (V i) := CS_cong (fun _ _ => rfl) (f1 _ (by omega)) (f1 _ (by omega)) (f1 _ (by omega)) (f1 _ (by omega)) (h i hi).2
    obtain ⟨J2, g1, g2, g3⟩ := c_117 (t := t) (L := L) (hvc i hi).1 (hvc i hi).2 (by omega) (h i hi).1 hC
    refine ⟨J2, ⟨fun c hc => ?_, fun s hs => ?_⟩, ?_⟩
    · rw [g2 c (by omega)]
      exact f1 c (by omega)
    · by_cases hsi : s = i
      · rw [hsi]
        exact g3
      · exact CS_cong (fun _ _ => rfl) (g2 _ (by omega)) (g2 _ (by omega)) (g2 _ (by omega)) (g2 _ (by omega)) (f2 s (by omega))
    · show m_100_b2 th o (Rc t) (Gc L) (nI i) J = _
      unfold m_100_b2
      have r1 : Rc t th 0 = th + 1 := by rcases ht with ⟨rfl, rfl⟩ | ⟨rfl, rfl⟩ <;> rfl
      have r2 : Rc t o 0 = o + 1 := by rcases ht with ⟨rfl, rfl⟩ | ⟨rfl, rfl⟩ <;> rfl
      have k1 : o_kd (Gc L) o 6 = true := by rcases ht with ⟨rfl, rfl⟩ | ⟨rfl, rfl⟩ <;> rfl
      have i1 : o_in (Gc L) 15 (th + 1) (nI i) = true := by rcases ht with ⟨rfl, rfl⟩ | ⟨rfl, rfl⟩ <;> exact gi (n := 4) rfl rfl hi (by decide)
      have i2 : o_in (Gc L) 15 (o + 1) (nI i) = true := by rcases ht with ⟨rfl, rfl⟩ | ⟨rfl, rfl⟩ <;> exact gi (n := 4) rfl rfl hi (by decide)
      have e1 : Rc t (th + 1) i = th + 4 + 4 * i := by
        rcases ht with ⟨rfl, rfl⟩ | ⟨rfl, rfl⟩ <;> (match i, hi with
          | 0, _ => rfl
          | 1, _ => rfl
          | 2, _ => rfl
          | 3, _ => rfl)
      have e2 : Rc t (o + 1) i = o + 4 + 4 * i := by
        rcases ht with ⟨rfl, rfl⟩ | ⟨rfl, rfl⟩ <;> (match i, hi with
          | 0, _ => rfl
          | 1, _ => rfl
          | 2, _ => rfl
          | 3, _ => rfl)
      rw [q_leF (by decide) hi, r1, r2, i1, o_g_t, k1, o_g_t, i2, o_g_t, i_cl (by omega), e1, e2, v_kd (hvc i hi).1, o_g_t, g1, o_b1_s, i_add, o_b1_s]) (fun J hJ => by
    show m_100_b2 th o (Rc t) (Gc L) (nI 4) J = _
    unfold m_100_b2
    rw [q_leT (by decide) (Nat.le_refl _)]) 4 0 I o_N (by omega) ⟨fun _ _ => rfl, fun s hs => absurd hs (Nat.not_lt_zero _)⟩ (show 4 < 2000000 by decide)
  have e0 : o_s1 (lp (fun q => m_100_b2 th o (Rc t) (Gc L) q.1 q.2) o_N (nI 0, I)) (fun q => m_100_x2_28 th o (Rc t) (Gc L) q) = m_100_x2_28 th o (Rc t) (Gc L) J := by
    rw [j3, o_s1_s]
  have k1 : o_kd (Gc L) o 6 = true := by rcases ht with ⟨rfl, rfl⟩ | ⟨rfl, rfl⟩ <;> rfl
  have r1 : Rc t th 1 = th + 2 ∧ Rc t o 1 = o + 2 ∧ Rc t th 2 = th + 3 ∧ Rc t o 2 = o + 3 := by rcases ht with ⟨rfl, rfl⟩ | ⟨rfl, rfl⟩ <;> exact ⟨rfl, rfl, rfl, rfl⟩
  have y1 : o_cpy (Gc L) (o + 2) (th + 2) (nI 0) (nI 0) (nI 8) = true := by rcases ht with ⟨rfl, rfl⟩ | ⟨rfl, rfl⟩ <;> exact o_cpy_of (n := 8) (m := 8) rfl rfl rfl rfl (by omega) (by omega) (by decide)
  have y2 : o_cpy (Gc L) (o + 3) (th + 3) (nI 0) (nI 0) (nI 80) = true := by rcases ht with ⟨rfl, rfl⟩ | ⟨rfl, rfl⟩ <;> exact o_cpy_of (n := 80) (m := 80) rfl rfl rfl rfl (by omega) (by omega) (by decide)
  rw [e0]
  unfold m_100_x2_28
  rw [k1, o_g_t, r1.1, r1.2.1, r1.2.2.1, r1.2.2.2, y1, o_g_t, o_b1_s, y2, o_g_t, o_b1_s, o_b1_s, o_b1_s, i_cl (by decide), i_cl (by decide), i_cl (by decide)]
  refine ⟨_, rfl, fun c hc => ?_, fun s hs => ?_, fun e he => ?_, fun e he => ?_, ?_, ?_⟩
  · rw [up_ne (by omega), up_ne (by omega), up_ne (by omega), up_ne (by omega)]
    exact j1 c (by omega)
  · refine CS_cong (fun _ _ => rfl) ?_ ?_ ?_ ?_ (j2 s hs) <;> rw [up_ne (by omega), up_ne (by omega), up_ne (by omega), up_ne (by omega)]
  · rw [up_ne (by omega), up_ne (by omega), up_ne (by omega), up_eq, cpy0, if_pos he, j1 _ (by omega)]
  · rw [up_ne (by omega), up_ne (by omega), up_eq, cpy0, if_pos he, up_ne (by omega), j1 _ (by omega)]
  · rw [up_eq, up_ne (by decide), up_eq, up_eq, up_ne (by omega), up_ne (by omega), j1 _ (by omega)]
  · rw [up_eq, up_eq, up_ne (by omega), up_ne (by omega), up_ne (by omega), j1 _ (by omega)]
/-- the reference's copy of a part of its file -/
theorem s_194 {I : ai_I} {t L a b : Nat} (ha : a < 3) (hb : b < 3) (hab : ¬ a = b) : ∃ J, m_194 75 (nI a) (nI b) I (Rc t) (Gc L) = some J ∧ (∀ c, ¬ c = 76 → J c = I c) ∧ (∀ j, (j < 1122 * b ∨ 1122 * b + 1122 ≤ j) → J 76 j = I 76 j) ∧ (∀ k, k < 1122 → J 76 (1122 * b + k) = I 76 (1122 * a + k)) := by
  unfold m_194
  obtain ⟨J, ⟨j1, j2, j3⟩, j4⟩ := lp_ex (b := fun q => m_194_b2 75 (nI a) (nI b) (Rc t) (Gc L) q.1 q.2) (fun k (J : ai_I) => (nI k, J)) (fun J => J) (fun k J => (∀ c, ¬ c = 76 → J c = I c) ∧ (∀ j, (j < 1122 * b ∨ 1122 * b + k ≤ j) → J 76 j = I 76 j) ∧ (∀ q, q < k → J 76 (1122 * b + q) = I 76 (1122 * a + q))) 1122 (fun i J hi hJ => by
    obtain ⟨f1, f2, f3⟩ := hJ
    refine ⟨va_up J 76 (va_up (J 76) (1122 * b + i) (I 76 (1122 * a + i))), ⟨fun c hc => by rw [up_ne hc]; exact f1 c hc, fun j hj => by rw [up_eq, up_ne (by omega)]; exact f2 j (by omega), fun q hq => ?_⟩, ?_⟩
    · rw [up_eq]
      by_cases hqi : q = i
      · rw [hqi, up_eq]
      · rw [up_ne (by omega)]
        exact f3 q (by omega)
    · show m_194_b2 75 (nI a) (nI b) (Rc t) (Gc L) (nI i) J = _
      unfold m_194_b2
      rw [q_leF (by omega) hi, r_75_0, i_mul, i_mul, i_add, i_add, g_76 (by omega), o_g_t, g_76 (by omega), o_g_t, o_b1_s, i_cl (by omega), i_cl (by omega), i_add, o_b1_s, f2 (1122 * a + i) (by omega)]) (fun J hJ => by
    show m_194_b2 75 (nI a) (nI b) (Rc t) (Gc L) (nI 1122) J = _
    unfold m_194_b2
    rw [q_leT (by decide) (Nat.le_refl _)]) 1122 0 I o_N (by omega) ⟨fun _ _ => rfl, fun _ _ => rfl, fun q hq => absurd hq (Nat.not_lt_zero _)⟩ (show 1122 < 2000000 by decide)
  refine ⟨J, ?_, j1, j2, j3⟩
  show o_s1 (lp (fun q => m_194_b2 75 (nI a) (nI b) (Rc t) (Gc L) q.1 q.2) o_N (nI 0, I)) _ = _
  rw [j4, o_s1_s]
  rfl
