/-! Out of whole's part 79w.clause, by wip/p46/extract.py. -/
theorem c_2 {I : ai_I} {t h k x : Nat} {L : ai_G} (hh : h ≤ 16) (hk : k < h) (h0 : I 43 0 = nI h) (h1 : I 45 k = nI x) : m_2 43 (nI k) I (Rc t) (Gc L) = some (nI x) := by
  unfold m_2
  rw [if_neg (nI_pos (by omega)), h0, if_neg (nI_ge hk (by omega)), r_43_5, g_45 (by omega), o_g_t, i_cl (by omega), h1]
theorem c_3 {I : ai_I} {t h k a b : Nat} {L : ai_G} (hh : h ≤ 16) (hk : k < h) (hab : a ≤ b) (h0 : I 43 0 = nI h) (h1 : I 46 k = nI a) (h2 : I 46 (k + 1) = nI b) : m_3 43 (nI k) I (Rc t) (Gc L) = some (nI (b - a)) := by
  unfold m_3
  rw [if_neg (nI_pos (by omega)), h0, if_neg (nI_ge hk (by omega)), r_43_6, i_add, g_46 (by omega), o_g_t, g_46 (by omega), o_g_t, i_cl (by omega), i_cl (by omega), h1, h2, i_sub hab]
theorem c_4 {I : ai_I} {t h k a b i : Nat} {L : ai_G} (hh : h ≤ 16) (hk : k < h) (hab : a ≤ b) (hb : b ≤ 100) (hi : i < 1000) (h0 : I 43 0 = nI h) (h1 : I 46 k = nI a) (h2 : I 46 (k + 1) = nI b) : m_4 43 (nI k) (nI i) I (Rc t) (Gc L) = some (if i < b - a then I 47 (a + i) else nI 0) := by
  unfold m_4
  rw [if_neg (nI_pos (by omega)), h0, if_neg (nI_ge hk (by omega)), if_neg (nI_pos (by omega)), r_43_6, i_add, g_46 (by omega), o_g_t, g_46 (by omega), o_g_t, i_cl (by omega), i_cl (by omega), h1, h2, i_sub hab]
  by_cases c : i < b - a
  · rw [if_pos (nI_lt c (by omega)), if_pos c, o_g_t, r_43_7, i_add, g_47 (by omega), o_g_t, i_cl (by omega)]
  · rw [if_neg (nI_nlt (by omega) (by omega)), if_neg c]
theorem rn_s {T : Nat → Nat} {n : Nat} {lo hi : Int32} {s : RS} {x : Nat × Nat × (Nat → Int32)} (h : rn T n lo hi s = .inr x) : ∃ p f N v q, s = .inr (p, f, N) ∧ x = (q, f + 1, va_up N f v) ∧ lo ≤ v ∧ v ≤ hi ∧ p + 2 ≤ q ∧ q ≤ n ∧ isA T n p 32 = true := by
  cases s with
  | inl e => cases h
  | inr y =>
    obtain ⟨p, f, N⟩ := y
    rw [rn_nx] at h
    cases hr : rdN T n lo hi p with
    | inl e => rw [hr] at h; cases h
    | inr z =>
      obtain ⟨v, q⟩ := z
      rw [hr] at h
      cases h
      have := rdN_p hr
      exact ⟨p, f, N, v, q, rfl, rfl, this.2.2.2.1, this.2.2.2.2, this.1, this.2.1, this.2.2.1⟩
theorem in_nI {lo hi : Nat} {v : Int32} (hl : lo < 2147483648) (hh : hi < 2147483648) (h1 : nI lo ≤ v) (h2 : v ≤ nI hi) : ∃ k, lo ≤ k ∧ k ≤ hi ∧ v = nI k := by
  rcases x_cases v (n := hi) hh with ⟨k, k1, rfl⟩ | h
  · refine ⟨k, ?_, k1, rfl⟩
    rw [i_le hl (by omega)] at h1
    exact h1
  · exact absurd ⟨Int32.le_trans (nI_pos' hl) h1, h2⟩ h
theorem rr_s {T : Nat → Nat} {n : Nat} {s : RS} {x : Nat × Nat × (Nat → Int32)} (h : rr T n s = .inr x) : ∃ p f N q k a b, s = .inr (p, f, N) ∧ x = (q, f + 3, va_up (va_up (va_up N f (nI k)) (f + 1) (nI a)) (f + 2) (nI b)) ∧ k ≤ 3 ∧ 2 ≤ a ∧ a ≤ 8 ∧ 1 ≤ b ∧ b < a ∧ p ≤ q ∧ q ≤ n := by
  unfold rr at h
  obtain ⟨p2, f2, N2, v2, q2, e2, rfl, l2, u2, o2, w2, -⟩ := rn_s h
  obtain ⟨p1, f1, N1, v1, q1, e1, h1, l1, u1, o1, w1, -⟩ := rn_s e2
  obtain ⟨p0, f0, N0, v0, q0, e0, h0, l0, u0, o0, w0, -⟩ := rn_s e1
  cases h0
  cases h1
  obtain ⟨k, -, k2, rfl⟩ := in_nI (by decide) (by decide) l0 u0
  obtain ⟨a, a1, a2, rfl⟩ := in_nI (by decide) (by decide) l1 u1
  rw [e2] at u2
  have hl : lst (.inr (p2, f0 + 1 + 1, va_up (va_up N0 f0 (nI k)) (f0 + 1) (nI a))) = nI a := by
    show va_up (va_up N0 f0 (nI k)) (f0 + 1) (nI a) (f0 + 1 + 1 - 1) = nI a
    rw [Nat.add_sub_cancel, up_eq]
  rw [hl, i_sub (by omega)] at u2
  obtain ⟨b, b1, b2, rfl⟩ := in_nI (by decide) (by omega) l2 u2
  exact ⟨p0, f0, N0, q2, k, a, b, e0, rfl, k2, a1, a2, b1, by omega, by omega, w2⟩
theorem gg_s {T : Nat → Nat} {n : Nat} {s : RS} {x : Nat × Nat × (Nat → Int32)} (h : gg T n s = .inr x) : ∃ p f N q k a b, s = .inr (p, f, N) ∧ x = (q, f + 3, va_up (va_up (va_up N f (nI k)) (f + 1) (nI a)) (f + 2) (nI b)) ∧ k ≤ 3 ∧ 2 ≤ a ∧ a ≤ 8 ∧ 2 ≤ b ∧ b ≤ 6 ∧ p ≤ q ∧ q ≤ n := by
  unfold gg at h
  obtain ⟨p2, f2, N2, v2, q2, e2, rfl, l2, u2, o2, w2, -⟩ := rn_s h
  obtain ⟨p1, f1, N1, v1, q1, e1, h1, l1, u1, o1, w1, -⟩ := rn_s e2
  obtain ⟨p0, f0, N0, v0, q0, e0, h0, l0, u0, o0, w0, -⟩ := rn_s e1
  cases h0
  cases h1
  obtain ⟨k, -, k2, rfl⟩ := in_nI (by decide) (by decide) l0 u0
  obtain ⟨a, a1, a2, rfl⟩ := in_nI (by decide) (by decide) l1 u1
  obtain ⟨b, b1, b2, rfl⟩ := in_nI (by decide) (by omega) l2 u2
  exact ⟨p0, f0, N0, q2, k, a, b, e0, rfl, k2, a1, a2, b1, b2, by omega, w2⟩
/-- what stands behind a clause's head -/
noncomputable def bdp (T : Nat → Nat) (n kind f0 : Nat) : RS → RS
  | .inl e => .inl e
  | .inr (p, f, N) => if kind = 2 then wt T n (.inr (p, f, N)) ((N (f0 + 1)).toNatClampNeg * (N (f0 + 2)).toNatClampNeg) else if kind = 3 then egs T n (N (f0 + 2) - nI 1) (.inr (p, f, N)) (N (f0 + 1)).toNatClampNeg else if kind = 4 then ssi T n (N (f0 + 1)).toNatClampNeg (N (f0 + 2)).toNatClampNeg f (.inr (p, f, N)) 100 else .inr (p, f, N)
noncomputable def clp (T : Nat → Nat) (n p f : Nat) (N : Nat → Int32) : RS :=
  if kdw T p (wend T n p) < 14 then bdp T n (kdw T p (wend T n p)) f (hdp T n (kdw T p (wend T n p)) (.inr (wend T n p, f, N))) else .inl (fa 1 p)
/-- what a clause's reading leaves of the class's memory -/
def CFr (I K : ai_I) (k : Nat) : Prop := (∀ c, ¬ c = 43 → ¬ c = 45 → ¬ c = 46 → ¬ c = 47 → K c = I c) ∧ (∀ j, ¬ j = 0 → ¬ j = 1 → ¬ j = 4 → ¬ j = 8 → K 43 j = I 43 j) ∧ (∀ j, ¬ j = k → K 45 j = I 45 j) ∧ ∀ j, ¬ j = k → ¬ j = k + 1 → K 46 j = I 46 j
def CCl (T : Nat → Nat) (n k f kd : Nat) (I K : ai_I) : RS → Prop
  | .inl e => e ≠ 0 ∧ CFr I K k ∧ K 43 1 = e ∧ ∃ q, q ≤ n ∧ K 43 4 = nI q
  | .inr (q, f1, N1) => CFr I K k ∧ q ≤ n ∧ f ≤ f1 ∧ 2 * f1 ≤ q ∧ K 43 0 = nI (k + 1) ∧ K 45 k = nI kd ∧ K 46 k = nI f ∧ K 46 (k + 1) = nI f1 ∧ K 43 4 = nI q ∧ K 43 8 = nI f1 ∧ K 43 1 = (if q < n ∧ ¬ T q = 59 then fa 1 q else 0) ∧ ∀ j, j < f1 → K 47 j = N1 j
theorem c_7j {I J K : ai_I} {n k f kd : Nat} {L : ai_G} {T : Nat → Nat} {s : RS} (hk : k < 16) (hf : f ≤ 100) (hT : TX J T n) (h : CL J n f K s) (hF : CFr I J k) (h0 : J 43 0 = nI (k + 1)) (h1 : J 45 k = nI kd) (h2 : J 46 k = nI f) : wp (m_7_j146 43 (Rc 42) (Gc L) K) (fun M => CCl T n k f kd I M s) := by
  have hT3 : ∀ k, k < n → T k < 256 := fun k hk => (hT.2.2 k hk).1
  have hn := hT.2.1
  have key : ∀ p f1 e N, p ≤ n → f ≤ f1 → f1 ≤ 100 → CM J K p f1 e N → wp (m_7_j146 43 (Rc 42) (Gc L) K) (fun M => CFr I M k ∧ M 43 0 = nI (k + 1) ∧ M 45 k = nI kd ∧ M 46 k = nI f ∧ M 46 (k + 1) = nI f1 ∧ M 43 4 = nI p ∧ M 43 8 = nI f1 ∧ M 43 1 = (if e = 0 then (if p < n ∧ ¬ T p = 59 then fa 1 p else 0) else e) ∧ ∀ j, j < f1 → M 47 j = N j) := fun p f1 e N hp hf1 hf2 hC => by
    have hC' := hC
    obtain ⟨g1, g2, g3, g4, g5, g6⟩ := hC
    have e0 : K 43 0 = nI (k + 1) := by rw [g2 0 (by decide) (by decide) (by decide), h0]
    unfold m_7_j146
    rw [e0, r_43_6, g_46 (by omega), o_g_t, i_cl (by omega), g4, o_b1_s]
    -- the memory with the clause's end
    have hM : CM (va_up J 46 (va_up (J 46) (k + 1) (nI f1))) (va_up K 46 (va_up (K 46) (k + 1) (nI f1))) p f1 e N := ⟨fun c c1 c2 => by
        by_cases c3 : c = 46
        · subst c3
          rw [up_eq, up_eq, g1 46 (by decide) (by decide)]
        · rw [up_ne c3, up_ne c3]
          exact g1 c c1 c2, fun j j1 j2 j3 => by rw [up_ne (by decide), up_ne (by decide)]; exact g2 j j1 j2 j3, by rw [up_ne (by decide)]; exact g3, by rw [up_ne (by decide)]; exact g4, by rw [up_ne (by decide)]; exact g5, fun j hj => by rw [up_ne (by decide)]; exact g6 j hj⟩
    have hT2 : TX (va_up J 46 (va_up (J 46) (k + 1) (nI f1))) T n := ⟨by rw [up_ne (by decide)]; exact hT.1, hn, fun j hj => ⟨hT3 j hj, by rw [up_ne (by decide)]; exact (hT.2.2 j hj).2⟩⟩
    have hx : 43 = 43 := rfl
    have done : ∀ M, CM (va_up J 46 (va_up (J 46) (k + 1) (nI f1))) M p f1 (if e = 0 then (if p < n ∧ ¬ T p = 59 then fa 1 p else 0) else e) N → CFr I M k ∧ M 43 0 = nI (k + 1) ∧ M 45 k = nI kd ∧ M 46 k = nI f ∧ M 46 (k + 1) = nI f1 ∧ M 43 4 = nI p ∧ M 43 8 = nI f1 ∧ M 43 1 = (if e = 0 then (if p < n ∧ ¬ T p = 59 then fa 1 p else 0) else e) ∧ ∀ j, j < f1 → M 47 j = N j := fun M hM => by
      obtain ⟨a1, a2, a3, a4, a5, a6⟩ := hM
      refine ⟨⟨fun c c1 c2 c3 c4 => by rw [a1 c c1 c4, up_ne c3]; exact hF.1 c c1 c2 c3 c4, fun j j1 j2 j3 j4 => by rw [a2 j j2 j3 j4, up_ne (by decide)]; exact hF.2.1 j j1 j2 j3 j4, fun j hj => by rw [a1 45 (by decide) (by decide), up_ne (by decide)]; exact hF.2.2.1 j hj, fun j hj hj2 => by rw [a1 46 (by decide) (by decide), up_eq, up_ne hj2]; exact hF.2.2.2 j hj hj2⟩, ?_, ?_, ?_, ?_, a3, a4, a5, a6⟩
      · rw [a2 0 (by decide) (by decide) (by decide), up_ne (by decide), h0]
      · rw [a1 45 (by decide) (by decide), up_ne (by decide), h1]
      · rw [a1 46 (by decide) (by decide), up_eq, up_ne (by omega), h2]
      · rw [a1 46 (by decide) (by decide), up_eq, up_eq]
    rw [c_6 hT2 hp hM, o_b1_s]
    by_cases c : p < n
    · rw [if_neg (fun h => (sg_end hT3).1 h c), o_b1_s]
      by_cases c2 : T p = 59
      · rw [if_pos ((sg_eq hT3 (by decide)).2 (isA_i.2 ⟨c, c2⟩)), wp_s]
        refine done _ ?_
        rw [if_neg (show ¬ (p < n ∧ ¬ T p = 59) from fun h => h.2 c2)]
        by_cases c3 : e = 0
        · rw [if_pos c3, ← c3]
          exact hM
        · rw [if_neg c3]
          exact hM
      · rw [if_neg (fun h => c2 (isA_i.1 ((sg_eq hT3 (by decide)).1 h)).2), hM.2.2.1]
        refine wp_b1 (wp_mono (c_5 hM) ?_)
        intro M hM2
        rw [wp_s]
        refine done _ ?_
        rw [if_pos (show p < n ∧ ¬ T p = 59 from ⟨c, c2⟩)]
        exact hM2
    · rw [if_pos ((sg_end hT3).2 c), wp_s]
      refine done _ ?_
      rw [if_neg (show ¬ (p < n ∧ ¬ T p = 59) from fun h => c h.1)]
      by_cases c3 : e = 0
      · rw [if_pos c3, ← c3]
        exact hM
      · rw [if_neg c3]
        exact hM
  cases s with
  | inl e =>
    obtain ⟨he, p, f1, N, p1, p2, p3, hC⟩ := h
    refine wp_mono (key p f1 e N p1 p2 p3 hC) ?_
    rintro M ⟨m1, m2, m3, m4, m5, m6, m7, m8, m9⟩
    rw [if_neg he] at m8
    exact ⟨he, m1, m8, p, p1, m6⟩
  | inr y =>
    obtain ⟨p, f1, N⟩ := y
    obtain ⟨p1, p2, p3, hC⟩ := h
    refine wp_mono (key p f1 0 N p1 p2 (by omega) hC) ?_
    rintro M ⟨m1, m2, m3, m4, m5, m6, m7, m8, m9⟩
    rw [if_pos rfl] at m8
    exact ⟨m1, p1, p2, p3, m2, m3, m4, m5, m6, m7, m8, m9⟩
