/-! Widest stairs: the class's; call stairs. -/
/-- settled: the class has been there -/
def sett (J : ai_I) (x : Nat) : Prop := 0 ≤ J 64 x
theorem c_131 {I : ai_I} {t L v n r : Nat} {V : Nat → Int32} (hv : v ∈ VC) (hW : WF n r V) (h : CS I v n r V) (hu : ∃ u, u ∈ BL V ∧ ¬ 0 ≤ I 64 u) : wp (m_131 63 v I (Rc t) (Gc L)) (fun x => ∃ b, b ∈ BL V ∧ x = nI b ∧ ¬ 0 ≤ I 64 b ∧ ∀ u, u ∈ BL V → ¬ 0 ≤ I 64 u → I 65 u ≤ I 65 b) := by
  have hl := BL_len hW
  unfold m_131
  refine wp_s1 (wp_lpB V (fun p (o : Option Nat) => (mo o, nI p)) (fun k o => match o with
    | none => ∀ u, u ∈ BL V → u < k → 0 ≤ I 64 u
    | some b => b ∈ BL V ∧ ¬ 0 ≤ I 64 b ∧ ∀ u, u ∈ BL V → u < k → ¬ 0 ≤ I 64 u → I 65 u ≤ I 65 b) (x0 := none) hl (fun u _ h9 => absurd h9 (Nat.not_lt_zero _)) ?_ ?_ ?_)
  · rintro k o hk hV hQ
    have key : ∀ u, u ∈ BL V → u < k + 1 → u < k := fun u hu hk2 => by
      have : ¬ u = k := fun h9 => (BL_mem.1 hu).2 (by rw [h9]; exact hV)
      omega
    cases o with
    | none => exact fun u hu hk2 => hQ u hu (key u hu hk2)
    | some b => exact ⟨hQ.1, hQ.2.1, fun u hu hk2 => hQ.2.2 u hu (key u hu hk2)⟩
  · rintro p o hp hQ
    have hb := BL_at hp
    have hbB := BL_in hp
    simp (disch := omega) only [if_pos, if_neg, o_b1_s, o_b2_s, o_b3_s, o_b4_s, o_s1_s, o_s2_l, o_s2_r, o_g_t, i_add, i_mul, i_sub, i_and, i_or, i_xor, i_sd, i_shl, Nat.one_mul, i_eq, i_lt, i_le, i_n0, i_0le, i_e0, i_0lt, i_le0, i_cl, bz_0, wp_s, lq_l, lq_r, if_true, if_false, ite_not, true_and, and_true, m_131_b4, v_kd hv, h.2.2.1, v_rb hv, v_gb hv, h.2.2.2.2.2, r_63_0, g_64, r_63_1, g_65]
    split
    · rename_i c0
      simp (disch := omega) only [o_b1_s, o_b2_s, o_b3_s, o_b4_s, o_s1_s, o_s2_l, o_s2_r, o_g_t, i_add, i_mul, i_sub, i_and, i_or, i_xor, i_sd, i_shl, Nat.one_mul, i_eq, i_lt, i_le, i_n0, i_0le, i_e0, i_0lt, i_le0, i_cl, bz_0, wp_s, lq_l, lq_r, if_true, if_false, ite_not, true_and, and_true]
      refine ⟨o, rfl, ?_⟩
      cases o with
      | none =>
        intro u hu hk2
        by_cases e : u = (BL V).getD p 0
        · rw [e]
          exact c0
        · exact hQ u hu (by omega)
      | some b =>
        refine ⟨hQ.1, hQ.2.1, fun u hu hk2 hun => ?_⟩
        by_cases e : u = (BL V).getD p 0
        · rw [e] at hun
          exact absurd c0 hun
        · exact hQ.2.2 u hu (by omega) hun
    · rename_i c0
      cases o with
      | none =>
        rw [if_pos (show mo none = -1 from rfl)]
        simp (disch := omega) only [o_b1_s, o_b2_s, o_b3_s, o_b4_s, o_s1_s, o_s2_l, o_s2_r, o_g_t, i_add, i_mul, i_sub, i_and, i_or, i_xor, i_sd, i_shl, Nat.one_mul, i_eq, i_lt, i_le, i_n0, i_0le, i_e0, i_0lt, i_le0, i_cl, bz_0, wp_s, lq_l, lq_r, if_true, if_false, ite_not, true_and, and_true]
        refine ⟨some ((BL V).getD p 0), rfl, hbB, c0, fun u hu hk2 hun => ?_⟩
        by_cases e : u = (BL V).getD p 0
        · rw [e]
          exact Int32.le_refl _
        · exact absurd (hQ u hu (by omega)) hun
      | some b =>
        have hb2 := BL_mem.1 hQ.1
        rw [if_neg (show ¬ mo (some b) = -1 from nI_m1 (by omega)), show mo (some b) = nI b from rfl]
        simp (disch := omega) only [if_pos, if_neg, o_b1_s, o_b2_s, o_b3_s, o_b4_s, o_s1_s, o_s2_l, o_s2_r, o_g_t, i_add, i_mul, i_sub, i_and, i_or, i_xor, i_sd, i_shl, Nat.one_mul, i_eq, i_lt, i_le, i_n0, i_0le, i_e0, i_0lt, i_le0, i_cl, bz_0, wp_s, lq_l, lq_r, if_true, if_false, ite_not, true_and, and_true, g_65]
        split
        · rename_i c1
          simp (disch := omega) only [o_b1_s, o_b2_s, o_b3_s, o_b4_s, o_s1_s, o_s2_l, o_s2_r, o_g_t, i_add, i_mul, i_sub, i_and, i_or, i_xor, i_sd, i_shl, Nat.one_mul, i_eq, i_lt, i_le, i_n0, i_0le, i_e0, i_0lt, i_le0, i_cl, bz_0, wp_s, lq_l, lq_r, if_true, if_false, ite_not, true_and, and_true]
          refine ⟨some b, rfl, hQ.1, hQ.2.1, fun u hu hk2 hun => ?_⟩
          by_cases e : u = (BL V).getD p 0
          · rw [e]
            exact c1
          · exact hQ.2.2 u hu (by omega) hun
        · rename_i c1
          have c2 := Int32.not_le.1 c1
          simp (disch := omega) only [o_b1_s, o_b2_s, o_b3_s, o_b4_s, o_s1_s, o_s2_l, o_s2_r, o_g_t, i_add, i_mul, i_sub, i_and, i_or, i_xor, i_sd, i_shl, Nat.one_mul, i_eq, i_lt, i_le, i_n0, i_0le, i_e0, i_0lt, i_le0, i_cl, bz_0, wp_s, lq_l, lq_r, if_true, if_false, ite_not, true_and, and_true]
          refine ⟨some ((BL V).getD p 0), rfl, hbB, c0, fun u hu hk2 hun => ?_⟩
          by_cases e : u = (BL V).getD p 0
          · rw [e]
            exact Int32.le_refl _
          · exact Int32.le_trans (hQ.2.2 u hu (by omega) hun) (Int32.le_of_lt c2)
  · rintro o hQ
    simp (disch := omega) only [if_pos, if_neg, o_b1_s, o_b2_s, o_b3_s, o_b4_s, o_s1_s, o_s2_l, o_s2_r, o_g_t, i_add, i_mul, i_sub, i_and, i_or, i_xor, i_sd, i_shl, Nat.one_mul, i_eq, i_lt, i_le, i_n0, i_0le, i_e0, i_0lt, i_le0, i_cl, bz_0, wp_s, lq_l, lq_r, if_true, if_false, ite_not, true_and, and_true, m_131_b4, v_kd hv, h.2.2.1]
    unfold m_131_x4_60
    cases o with
    | none =>
      obtain ⟨u, hu, hun⟩ := hu
      exact absurd (hQ u hu (BL_mem.1 hu).1) hun
    | some b =>
      rw [if_neg (show ¬ mo (some b) = -1 from nI_m1 (by have := (BL_mem.1 hQ.1).1; omega)), wp_s]
      exact ⟨b, hQ.1, rfl, hQ.2.1, fun u hu hun => hQ.2.2 u hu (BL_mem.1 hu).1 hun⟩
/-- the widths behind one base's turn -/
def rlx (V S w : Nat → Int32) (b x : Nat) : Int32 := if V x ≠ NO ∧ nb b x then mx (w x) (mn (w b) (S x)) else w x
theorem rlx_b {V S w : Nat → Int32} {b : Nat} : rlx V S w b b = w b := if_neg (fun h => h.2.1 rfl)
/-- what holds of the class's widths: K of the bases are settled -/
def WI (V S : Nat → Int32) (a : Nat) (D : Nat → Prop) (w : Nat → Int32) : Prop := wsn V S a w ∧ S a ≤ w a ∧ (∀ y, y ∈ BL V → D y → ∀ u, u ∈ BL V → ¬ D u → w u ≤ w y) ∧ ∀ y, y ∈ BL V → D y → ¬ w y = NO → ∀ x, x ∈ BL V → nb y x → mn (w y) (S x) ≤ w x
theorem rlx_ge {V S w : Nat → Int32} {b x : Nat} : w x ≤ rlx V S w b x := by
  unfold rlx
  split
  · exact mx_l _ _
  · exact Int32.le_refl _
theorem WI_step {V S w : Nat → Int32} {a b : Nat} {D : Nat → Prop} (h : WI V S a D w) (hb : b ∈ BL V) (hbD : ¬ D b) (hbw : ¬ w b = NO) (hmax : ∀ u, u ∈ BL V → ¬ D u → w u ≤ w b) : WI V S a (fun x => D x ∨ x = b) (rlx V S w b) := by
  obtain ⟨h1, h2, h3, h4⟩ := h
  have hle : ∀ y, y ∈ BL V → D y → rlx V S w b y = w y := fun y hy hD => by
    unfold rlx
    split
    · have h5 := h3 y hy hD b hb hbD
      exact Int32.le_antisymm (mx_le (Int32.le_refl _) (Int32.le_trans (mn_l _ _) h5)) (mx_l _ _)
    · rfl
  have hun : ∀ u, u ∈ BL V → ¬ D u → rlx V S w b u ≤ w b := fun u hu hD => by
    unfold rlx
    split
    · exact mx_le (hmax u hu hD) (mn_l _ _)
    · exact hmax u hu hD
  refine ⟨fun x hx => ?_, Int32.le_trans h2 rlx_ge, fun y hy hD u hu huD => ?_, fun y hy hD hyw x hx hn => ?_⟩
  · unfold rlx
    split
    · rename_i c
      have hxB : x ∈ BL V := BL_mem.2 ⟨hx, c.1⟩
      rcases mx_or (w x) (mn (w b) (S x)) with e | e
      · rw [e]
        exact h1 x hx
      · rw [e]
        exact Or.inr ⟨hxB, wsn_up h1 (BL_mem.1 hb).1 hbw hxB c.2⟩
    · exact h1 x hx
  · have huD2 : ¬ D u := fun h9 => huD (Or.inl h9)
    by_cases e : y = b
    · rw [e, rlx_b]
      exact hun u hu huD2
    · have hDy : D y := by
        rcases hD with hD | hD
        · exact hD
        · exact absurd hD e
      rw [hle y hy hDy]
      exact Int32.le_trans (hun u hu huD2) (h3 y hy hDy b hb hbD)
  · by_cases e : y = b
    · subst e
      rw [rlx_b]
      have hc : V x ≠ NO ∧ nb y x := ⟨(BL_mem.1 hx).2, hn⟩
      have e2 : rlx V S w y x = mx (w x) (mn (w y) (S x)) := if_pos hc
      rw [e2]
      exact mx_r _ _
    · have hDy : D y := by
        rcases hD with hD | hD
        · exact hD
        · exact absurd hD e
      rw [hle y hy hDy] at hyw ⊢
      exact Int32.le_trans (h4 y hy hDy hyw x hx hn) rlx_ge
theorem WI_cong {V S w u : Nat → Int32} {a : Nat} {D E : Nat → Prop} (h1 : ∀ x, x ∈ BL V → (D x ↔ E x)) (h2 : ∀ x, x < 256 → w x = u x) (h : WI V S a D w) (ha : a < 256) : WI V S a E u := by
  obtain ⟨a1, a2, a3, a4⟩ := h
  refine ⟨fun x hx => by rw [← h2 x hx]; exact a1 x hx, by rw [← h2 a ha]; exact a2, fun y hy hD z hz hzD => ?_, fun y hy hD hyw x hx hn => ?_⟩
  · rw [← h2 z (BL_mem.1 hz).1, ← h2 y (BL_mem.1 hy).1]
    exact a3 y hy ((h1 y hy).2 hD) z hz (fun h9 => hzD ((h1 z hz).1 h9))
  · rw [← h2 y (BL_mem.1 hy).1] at hyw ⊢
    rw [← h2 x (BL_mem.1 hx).1]
    exact a4 y hy ((h1 y hy).2 hD) hyw x hx hn
theorem cnt_one {p q : Nat → Bool} {b : Nat} : ∀ {l : List Nat}, l.Pairwise (· < ·) → b ∈ l → p b = false → q b = true → (∀ x, x ∈ l → ¬ x = b → p x = q x) → (l.filter q).length = (l.filter p).length + 1
  | [], _, h, _, _, _ => absurd h (List.not_mem_nil)
  | y :: l, hp, h, h0, h1, h2 => by
    have hp2 := List.pairwise_cons.1 hp
    by_cases e : b = y
    · subst e
      have rest : l.filter q = l.filter p := List.filter_congr (fun x hx => by
        have := hp2.1 x hx
        exact (h2 x (List.mem_cons_of_mem _ hx) (by omega)).symm)
      rw [List.filter_cons_of_pos h1, List.filter_cons_of_neg (by rw [h0]; decide), rest, List.length_cons]
    · have hl : b ∈ l := by
        rcases List.mem_cons.1 h with h | h
        · exact absurd h e
        · exact h
      have ih := cnt_one hp2.2 hl h0 h1 (fun x hx hxb => h2 x (List.mem_cons_of_mem _ hx) hxb)
      have e2 := h2 y (List.mem_cons_self ..) (fun h9 => e h9.symm)
      by_cases c : q y = true
      · rw [List.filter_cons_of_pos c, List.filter_cons_of_pos (by rw [e2]; exact c), List.length_cons, List.length_cons, ih]
      · rw [List.filter_cons_of_neg c, List.filter_cons_of_neg (by rw [e2]; exact c), ih]
def stq (J : ai_I) (x : Nat) : Bool := decide (0 ≤ J 64 x)
theorem c_130 {I : ai_I} {t L v n r a : Nat} {V S : Nat → Int32} (hv : v ∈ VC) (hW : WF n r V) (h : CS I v n r V) (hT : TB I V S) (ha : a ∈ BL V) : wp (m_130 63 v (nI a) 58 I (Rc t) (Gc L)) (fun J => ot2 I J 64 65 ∧ wsn V S a (J 65) ∧ wst2 V S a (J 65)) := by
  have hl := BL_len hW
  have hvv := vc_51 v hv
  have ha2 := BL_mem.1 ha
  obtain ⟨J, j1, j2, j3⟩ := c_332 (I := I) (L := L) (a := 64) (n := 256) (x := -1) rfl rfl (by decide)
  obtain ⟨K, k1, k2, k3⟩ := c_332 (I := J) (L := L) (a := 65) (n := 256) (x := NO) rfl rfl (by decide)
  have hTa : K 58 a = S a := by
    rw [k2 58 (by decide), j2 58 (by decide), hT a ha2.1, if_pos ha2.2]
  unfold m_130
  rw [r_63_0, r_63_1, j1, o_b1_s, k1, o_b1_s]
  simp (disch := omega) only [if_pos, if_neg, o_b1_s, o_b2_s, o_b3_s, o_b4_s, o_s1_s, o_s2_l, o_s2_r, o_g_t, i_add, i_mul, i_sub, i_and, i_or, i_xor, i_sd, i_shl, Nat.one_mul, i_eq, i_lt, i_le, i_n0, i_0le, i_e0, i_0lt, i_le0, i_cl, bz_0, wp_s, lq_l, lq_r, if_true, if_false, ite_not, true_and, and_true, g_58, g_65, hTa]
  refine wp_s2 (wp_lp (fun k s => ∃ J, s = (nI k, J) ∧ ot2 I J 64 65 ∧ WI V S a (sett J) (J 65) ∧ ((BL V).filter (stq J)).length = k) 0 (BL V).length (Nat.zero_le _) (by omega) ⟨_, rfl, fun c h1 h2 => by rw [up_ne h2, k2 c h2, j2 c h1], ⟨fun x hx => ?_, ?_, fun y hy hD => ?_, fun y hy hD => ?_⟩, ?_⟩ ?_ ?_)
  · rw [up_eq]
    by_cases e : x = a
    · rw [e, up_eq]
      exact Or.inr ⟨ha, ⟨0, rfl, Int32.le_refl _⟩, a, ha, rfl⟩
    · rw [up_ne e]
      exact Or.inl (k3 x hx)
  · rw [up_eq, up_eq]
    exact Int32.le_refl _
  · unfold sett at hD
    rw [up_ne (by decide), k2 64 (by decide), j3 y (BL_mem.1 hy).1] at hD
    exact absurd hD (by decide)
  · unfold sett at hD
    rw [up_ne (by decide), k2 64 (by decide), j3 y (BL_mem.1 hy).1] at hD
    exact absurd hD (by decide)
  · rw [List.filter_eq_nil_iff.2 (fun x hx => by
      unfold stq
      rw [up_ne (by decide), k2 64 (by decide), j3 x (BL_mem.1 hx).1]
      decide)]
    rfl
  · rintro k _ hk ⟨J, rfl, hJ, hWI, hcnt⟩
    have hC : CS J v n r V := CS_cong (fun _ _ => rfl) (hJ _ (by omega) (by omega)) (hJ _ (by omega) (by omega)) (hJ _ (by omega) (by omega)) (hJ _ (by omega) (by omega)) h
    have hex : ∃ u, u ∈ BL V ∧ ¬ 0 ≤ J 64 u := by
      apply Decidable.byContradiction
      intro hno
      have hall : (BL V).filter (stq J) = BL V := List.filter_eq_self.2 (fun u hu => by
        unfold stq
        refine decide_eq_true (Decidable.byContradiction (fun h9 => hno ⟨u, hu, h9⟩)))
      rw [hall] at hcnt
      omega
    simp (disch := omega) only [if_pos, if_neg, o_b1_s, o_b2_s, o_b3_s, o_b4_s, o_s1_s, o_s2_l, o_s2_r, o_g_t, i_add, i_mul, i_sub, i_and, i_or, i_xor, i_sd, i_shl, Nat.one_mul, i_eq, i_lt, i_le, i_n0, i_0le, i_e0, i_0lt, i_le0, i_cl, bz_0, wp_s, lq_l, lq_r, if_true, if_false, ite_not, true_and, and_true, m_130_b29, v_kd hv, hC.2.2.1]
    refine wp_b1 (wp_mono (c_131 (t := t) (L := L) hv hW hC hex) ?_)
    rintro _ ⟨b, hb, rfl, hbD, hmax⟩
    have hb2 := BL_mem.1 hb
    simp (disch := omega) only [if_pos, if_neg, o_b1_s, o_b2_s, o_b3_s, o_b4_s, o_s1_s, o_s2_l, o_s2_r, o_g_t, i_add, i_mul, i_sub, i_and, i_or, i_xor, i_sd, i_shl, Nat.one_mul, i_eq, i_lt, i_le, i_n0, i_0le, i_e0, i_0lt, i_le0, i_cl, bz_0, wp_s, lq_l, lq_r, if_true, if_false, ite_not, true_and, and_true, r_63_1, g_65, r_63_0, g_64]
    split
    · rename_i c0
      simp (disch := omega) only [o_b1_s, o_b2_s, o_b3_s, o_b4_s, o_s1_s, o_s2_l, o_s2_r, o_g_t, i_add, i_mul, i_sub, i_and, i_or, i_xor, i_sd, i_shl, Nat.one_mul, i_eq, i_lt, i_le, i_n0, i_0le, i_e0, i_0lt, i_le0, i_cl, bz_0, wp_s, lq_l, lq_r, if_true, if_false, ite_not, true_and, and_true, m_130_x29_57]
      refine ⟨hJ, hWI.1, hWI.2.1, fun y hy hyw x hx hn => ?_⟩
      by_cases e : 0 ≤ J 64 y
      · exact hWI.2.2.2 y hy e hyw x hx hn
      · have h5 := hmax y hy e
        rw [c0] at h5
        exact absurd (Int32.le_antisymm h5 (NO_le _)) hyw
    · rename_i c0
      have hw0 : (va_up J 64 (va_up (J 64) b (nI k))) 65 = J 65 := up_ne (by decide)
      refine wp_s1 (wp_lpB V (fun p (K : ai_I) => (nI p, K)) (fun j K => (∀ c, ¬ c = 65 → K c = (va_up J 64 (va_up (J 64) b (nI k))) c) ∧ ∀ x, x < 256 → K 65 x = if x < j then rlx V S (J 65) b x else J 65 x) (x0 := va_up J 64 (va_up (J 64) b (nI k))) hl ⟨fun _ _ => rfl, fun x hx => by rw [if_neg (Nat.not_lt_zero _), hw0]⟩ ?_ ?_ ?_)
      · rintro j K hj hV ⟨q1, q2⟩
        refine ⟨q1, fun x hx => ?_⟩
        rw [q2 x hx]
        by_cases e : x = j
        · rw [e, if_neg (Nat.lt_irrefl _), if_pos (Nat.lt_succ_self _)]
          unfold rlx
          rw [if_neg (fun h9 => h9.1 hV)]
        · by_cases e2 : x < j
          · rw [if_pos e2, if_pos (by omega)]
          · rw [if_neg e2, if_neg (by omega)]
      · rintro p K hp ⟨q1, q2⟩
        have hx := BL_at hp
        have hxB := BL_in hp
        have hpc : pc b = pc ((BL V).getD p 0) := by rw [(hW.2.2.2.2.1 _ hb2.1 hb2.2).2.1, (hW.2.2.2.2.1 _ hx.1 hx.2).2.1]
        have fr : ∀ c, ¬ c = 64 → ¬ c = 65 → K c = I c := fun c c1 c2 => by rw [q1 c c2, up_ne c1]; exact hJ c c1 c2
        have hCK : CS K v n r V := CS_cong (fun _ _ => rfl) (fr _ (by omega) (by omega)) (fr _ (by omega) (by omega)) (fr _ (by omega) (by omega)) (fr _ (by omega) (by omega)) h
        have hTx : K 58 ((BL V).getD p 0) = S ((BL V).getD p 0) := by rw [fr 58 (by decide) (by decide), hT _ hx.1, if_pos hx.2]
        have hKb : K 65 b = J 65 b := by
          rw [q2 b hb2.1]
          split
          · exact rlx_b
          · rfl
        have hKx : K 65 ((BL V).getD p 0) = J 65 ((BL V).getD p 0) := by rw [q2 _ hx.1, if_neg (Nat.lt_irrefl _)]
        simp (disch := omega) only [if_pos, if_neg, o_b1_s, o_b2_s, o_b3_s, o_b4_s, o_s1_s, o_s2_l, o_s2_r, o_g_t, i_add, i_mul, i_sub, i_and, i_or, i_xor, i_sd, i_shl, Nat.one_mul, i_eq, i_lt, i_le, i_n0, i_0le, i_e0, i_0lt, i_le0, i_cl, bz_0, wp_s, lq_l, lq_r, if_true, if_false, ite_not, true_and, and_true, m_130_b70, hCK.2.2.1, v_rb hv, v_gb hv, hCK.2.2.2.2.2, c_129 hb2.1 hx.1 hpc, r_63_1, g_65, g_58]
        rw [hTx, hKb, hKx, mn_lt, mx_lt]
        have fin : ∀ y, y = rlx V S (J 65) b ((BL V).getD p 0) → (∀ c, ¬ c = 65 → va_up K 65 (va_up (K 65) ((BL V).getD p 0) y) c = (va_up J 64 (va_up (J 64) b (nI k))) c) ∧ ∀ x, x < 256 → va_up K 65 (va_up (K 65) ((BL V).getD p 0) y) 65 x = if x < (BL V).getD p 0 + 1 then rlx V S (J 65) b x else J 65 x := fun y hy => ⟨fun c hc => by rw [up_ne hc]; exact q1 c hc, fun x hx2 => by
          rw [up_eq]
          by_cases e : x = (BL V).getD p 0
          · rw [e, up_eq, if_pos (Nat.lt_succ_self _), hy]
          · rw [up_ne e, q2 x hx2]
            by_cases e2 : x < (BL V).getD p 0
            · rw [if_pos e2, if_pos (by omega)]
            · rw [if_neg e2, if_neg (by omega)]⟩
        split
        · rename_i c1
          simp (disch := omega) only [o_b1_s, o_b2_s, o_b3_s, o_b4_s, o_s1_s, o_s2_l, o_s2_r, o_g_t, i_add, i_mul, i_sub, i_and, i_or, i_xor, i_sd, i_shl, Nat.one_mul, i_eq, i_lt, i_le, i_n0, i_0le, i_e0, i_0lt, i_le0, i_cl, bz_0, wp_s, lq_l, lq_r, if_true, if_false, ite_not, true_and, and_true]
          exact ⟨_, rfl, fin _ (by unfold rlx; rw [if_pos ⟨hx.2, c1⟩])⟩
        · rename_i c1
          simp (disch := omega) only [o_b1_s, o_b2_s, o_b3_s, o_b4_s, o_s1_s, o_s2_l, o_s2_r, o_g_t, i_add, i_mul, i_sub, i_and, i_or, i_xor, i_sd, i_shl, Nat.one_mul, i_eq, i_lt, i_le, i_n0, i_0le, i_e0, i_0lt, i_le0, i_cl, bz_0, wp_s, lq_l, lq_r, if_true, if_false, ite_not, true_and, and_true]
          refine ⟨K, rfl, q1, fun x hx2 => ?_⟩
          rw [q2 x hx2]
          by_cases e : x = (BL V).getD p 0
          · rw [e, if_neg (Nat.lt_irrefl _), if_pos (Nat.lt_succ_self _)]
            unfold rlx
            rw [if_neg (fun h9 => c1 h9.2)]
          · by_cases e2 : x < (BL V).getD p 0
            · rw [if_pos e2, if_pos (by omega)]
            · rw [if_neg e2, if_neg (by omega)]
      · rintro K ⟨q1, q2⟩
        have fr : ∀ c, ¬ c = 64 → ¬ c = 65 → K c = I c := fun c c1 c2 => by rw [q1 c c2, up_ne c1]; exact hJ c c1 c2
        have hCK : CS K v n r V := CS_cong (fun _ _ => rfl) (fr _ (by omega) (by omega)) (fr _ (by omega) (by omega)) (fr _ (by omega) (by omega)) (fr _ (by omega) (by omega)) h
        simp (disch := omega) only [if_pos, if_neg, o_b1_s, o_b2_s, o_b3_s, o_b4_s, o_s1_s, o_s2_l, o_s2_r, o_g_t, i_add, i_mul, i_sub, i_and, i_or, i_xor, i_sd, i_shl, Nat.one_mul, i_eq, i_lt, i_le, i_n0, i_0le, i_e0, i_0lt, i_le0, i_cl, bz_0, wp_s, lq_l, lq_r, if_true, if_false, ite_not, true_and, and_true, m_130_b70, hCK.2.2.1, m_130_x70_135]
        have hstep := WI_step hWI hb hbD c0 hmax
        have h64 : ∀ x, (0 ≤ K 64 x) ↔ (0 ≤ J 64 x ∨ x = b) := fun x => by
          rw [q1 64 (by decide), up_eq]
          by_cases e : x = b
          · rw [e, up_eq]
            exact ⟨fun _ => Or.inr rfl, fun _ => nI_pos' (by omega)⟩
          · rw [up_ne e]
            exact ⟨fun h9 => Or.inl h9, fun h9 => by
              rcases h9 with h9 | h9
              · exact h9
              · exact absurd h9 e⟩
        have hK65 : ∀ x, x < 256 → K 65 x = rlx V S (J 65) b x := fun x hx => by rw [q2 x hx, if_pos hx]
        refine ⟨K, rfl, fr, WI_cong (fun x _ => (h64 x).symm) (fun x hx => (hK65 x hx).symm) hstep ha2.1, ?_⟩
        rw [cnt_one (p := stq J) (q := stq K) (BL_sorted V) hb (by unfold stq; exact decide_eq_false hbD) (by unfold stq; exact decide_eq_true ((h64 b).2 (Or.inr rfl))) (fun x _ hxb => ?_), hcnt]
        unfold stq
        by_cases e : 0 ≤ J 64 x
        · rw [decide_eq_true e, decide_eq_true ((h64 x).2 (Or.inl e))]
        · rw [decide_eq_false e, decide_eq_false (fun h9 => by
            rcases (h64 x).1 h9 with h8 | h8
            · exact e h8
            · exact hxb h8)]
  · rintro _ ⟨J, rfl, hJ, hWI, hcnt⟩
    have hC : CS J v n r V := CS_cong (fun _ _ => rfl) (hJ _ (by omega) (by omega)) (hJ _ (by omega) (by omega)) (hJ _ (by omega) (by omega)) (hJ _ (by omega) (by omega)) h
    simp (disch := omega) only [if_pos, if_neg, o_b1_s, o_b2_s, o_b3_s, o_b4_s, o_s1_s, o_s2_l, o_s2_r, o_g_t, i_add, i_mul, i_sub, i_and, i_or, i_xor, i_sd, i_shl, Nat.one_mul, i_eq, i_lt, i_le, i_n0, i_0le, i_e0, i_0lt, i_le0, i_cl, bz_0, wp_s, lq_l, lq_r, if_true, if_false, ite_not, true_and, and_true, m_130_b29, v_kd hv, hC.2.2.1, m_130_x29_141]
    have hall : ∀ y, y ∈ BL V → 0 ≤ J 64 y := fun y hy => by
      apply Decidable.byContradiction
      intro h9
      have h2 := filter_lt (p := stq J) (q := fun _ => true) hy (by unfold stq; exact decide_eq_false h9) rfl (fun _ _ _ => rfl)
      rw [List.filter_eq_self.2 (fun _ _ => rfl), hcnt] at h2
      exact Nat.lt_irrefl _ h2
    exact ⟨hJ, hWI.1, hWI.2.1, fun y hy hyw x hx hn => hWI.2.2.2 y hy (hall y hy) hyw x hx hn⟩
theorem op_stairs {I : ai_I} {t L : Nat} (h : ST I) (s x y z : Int32) : OPc I (m_166 1 s x y z I (Rc t) (Gc L)) (fun I1 => m_304 75 s x y z I1 (Rc t) (Gc L)) := by
  rcases x_cases s (n := 3) (by decide) with ⟨k, hk, rfl⟩ | hs
  · obtain ⟨n, r, I1, hW, hC, hI, hIr, f1, f2, f3, f4, f5, f6, f7, f8⟩ := c_fill (t := t) (L := L) h (show k < 4 by omega)
    have hv := vc_s (s := k) (by omega)
    have hl := BL_len hW
    have hS := S_gt hW (PR_b h)
    have u1 : m_166 1 (nI k) x y z I (Rc t) (Gc L) = o_b1 (m_122 (6 + 4 * k) x I (Rc t) (Gc L)) (fun r_18 => if r_18 = 0 then (some ((-2147483648 : Int32), I)) else (o_b1 (m_122 (6 + 4 * k) y I (Rc t) (Gc L)) (fun r_27 => if r_27 = 0 then (some ((-2147483648 : Int32), I)) else (if z < 0 then (some ((-2147483648 : Int32), I)) else (if z ≤ (nI 1) then (if z = 0 then (o_b2 (m_127 63 (6 + 4 * k) x I (Rc t) (Gc L)) (fun r_59 I_59 => o_g (o_in (Gc L) 13 64 y) (if 0 ≤ (I_59 64 y.toNatClampNeg) then (o_g (o_in (Gc L) 13 64 y) (some (I_59 64 y.toNatClampNeg, I_59))) else (some ((-2 : Int32), I_59))))) else (o_b1 (m_130 63 (6 + 4 * k) x 58 I1 (Rc t) (Gc L)) (fun I_120 => o_g (o_in (Gc L) 13 65 y) (some (I_120 65 y.toNatClampNeg, I_120))))) else (some ((-2147483648 : Int32), I))))))) := by
      unfold m_166
      rw [r_1_0, k_2, o_g_t, c_96 (by omega), o_b1_s, if_neg (by omega), v_kd hv, o_g_t, r_1_11, k_63, o_g_t, r_63_0, r_63_1, r_1_8, k_57, o_g_t, r_2_1, f1, o_b1_s, o_g_t, r_57_0]
    rw [u1]
    rcases x_cases x (n := 255) (by decide) with ⟨a, ha, rfl⟩ | hx
    · rw [c_122 hv hW hC (by omega), o_b1_s, q_bz]
      by_cases hA : FV I k a ≠ NO
      · have haB : a ∈ BL (FV I k) := BL_mem.2 ⟨by omega, hA⟩
        rw [if_pos hA]
        rcases x_cases y (n := 255) (by decide) with ⟨b, hb, rfl⟩ | hy
        · rw [c_122 hv hW hC (by omega), o_b1_s, q_bz]
          by_cases hB : FV I k b ≠ NO
          · rw [if_pos hB]
            have er : ∀ J : ai_I, J 76 = I 76 → m_304 75 (nI k) (nI a) (nI b) z J (Rc t) (Gc L) = (if nI 0 ≤ z ∧ z ≤ nI 1 then (if z = (nI 1) then (o_b1 (m_303 75 (nI k) (nI a) J (Rc t) (Gc L)) (fun I_48 => o_g (o_in (Gc L) 13 88 (nI b)) (some (I_48 88 (nI b).toNatClampNeg, I_48)))) else (o_b1 (m_302 75 (nI k) (nI a) J (Rc t) (Gc L)) (fun I_61 => o_g (o_in (Gc L) 13 87 (nI b)) (if (I_61 87 (nI b).toNatClampNeg) = (-1 : Int32) then (some ((-2 : Int32), I_61)) else (o_g (o_in (Gc L) 13 87 (nI b)) (some (I_61 87 (nI b).toNatClampNeg, I_61))))))) else some ((-2147483648 : Int32), J)) := fun J hJ => by
              have hF : FV J k = FV I k := by
                unfold FV
                rw [hJ]
              unfold m_304
              rw [s_200, o_b1_s, q_bz, if_pos (nI_in03 hk), s_199 (by omega) (by omega), o_b1_s, q_bz, hF, if_pos hA, s_199 (by omega) (by omega), o_b1_s, q_bz, hF, if_pos hB, j_lit.2.1, j1_lit, s_189i, o_b1_s, q_bz, r_75_26, r_75_27]
            rcases x_cases z (n := 1) (by decide) with ⟨w, hw, rfl⟩ | hz
            · have hw2 : w = 0 ∨ w = 1 := by omega
              rcases hw2 with rfl | rfl
              · rw [if_neg (by decide), if_pos (by decide), if_pos (by decide)]
                obtain ⟨p, q1, q, q2, q3, q4, q5⟩ := c_127 (t := t) (L := L) hv hW hC haB
                have h76 := q5 76 (by decide) (by decide)
                have hF : FV p.2 k = FV I k := by
                  unfold FV
                  rw [h76]
                obtain ⟨K, k1, u, k2, k3, k4⟩ := s_302 (I := p.2) (t := t) (L := L) (s := k) (n := n) (r := r) (a := a) (by omega) (by rw [hF]; exact hW) (by rw [hF]; exact haB)
                rw [hF] at k2 k3
                obtain rfl := BQ_one q2 k2
                have hBI := BI_sg haB q q2.2
                have hle := BI_le hBI
                have hst := hBI.2.2.2.1 b
                have e1 := q4.1 b (by omega)
                have e2 := k3.1 b (by omega)
                have fr : ∀ c, ¬ c = 64 → ¬ c = 66 → ¬ c = 87 → ¬ c = 89 → K c = I c := fun c c1 c2 c3 c4 => (k4 c c3 c4).trans (q5 c c1 c2)
                refine ⟨if (bsg (FV I k) a q).2.2 b = 0 then -2 else dwn ((bsg (FV I k) a q).2.2 b), p.2, K, ?_, ?_, ⟨fun c hc => fr c (by omega) (by omega) (by omega) (by omega), fun j _ => by rw [fr 76 (by decide) (by decide) (by decide) (by decide)], fr 77 (by decide) (by decide) (by decide) (by decide), by rw [fr 75 (by decide) (by decide) (by decide) (by decide)], by rw [fr 75 (by decide) (by decide) (by decide) (by decide)], fr 1999 (by decide) (by decide) (by decide) (by decide)⟩, q5 1999 (by decide) (by decide)⟩
                · rw [q1, o_b2, g_64 (by omega), o_g_t, o_g_t, i_cl (by omega)]
                  by_cases c : (bsg (FV I k) a q).2.2 b = 0
                  · rw [if_neg (by rw [e1, dwn_0le (by omega)]; omega), if_pos c]
                  · rw [if_pos (by rw [e1, dwn_0le (by omega)]; omega), if_neg c, e1]
                · show m_304 75 (nI k) (nI a) (nI b) (nI 0) p.2 (Rc t) (Gc L) = _
                  rw [er p.2 h76, if_pos (by decide), if_neg (by decide), k1, o_b1_s, g_87 (by omega), o_g_t, o_g_t, i_cl (by omega)]
                  by_cases c : (bsg (FV I k) a q).2.2 b = 0
                  · rw [if_pos (by rw [e2, nmin1 (by omega)]; exact c), if_pos c]
                  · rw [if_neg (by rw [e2, nmin1 (by omega)]; exact c), if_neg c, e2]
              · rw [if_neg (by decide), if_pos (by decide), if_neg (by decide)]
                obtain ⟨J, j1, j2, j3, j4⟩ := c_130 (t := t) (L := L) hv hW f3 f6 haB
                have hJc : ∀ c, ¬ c = 57 → ¬ c = 58 → ¬ c = 64 → ¬ c = 65 → J c = I c := fun c c1 c2 c3 c4 => (j2 c c3 c4).trans (f8 c c1 c2)
                have h76 := hJc 76 (by decide) (by decide) (by decide) (by decide)
                have hF : FV J k = FV I k := by
                  unfold FV
                  rw [h76]
                have hR : RP J = RP I := by
                  unfold RP
                  rw [h76]
                obtain ⟨K, k1, k2, k3, k4⟩ := s_303 (I := J) (t := t) (L := L) (s := k) (n := n) (r := r) (a := a) (by omega) (by rw [hF]; exact hW) (by rw [hF, hR]; exact hS) (by rw [hF]; exact haB)
                rw [hF, hR] at k3 k4
                have e := wid_one hS haB j3 j4 k3 k4 (show b < 256 by omega)
                have fr : ∀ c, ¬ c = 57 → ¬ c = 58 → ¬ c = 64 → ¬ c = 65 → ¬ c = 88 → K c = I c := fun c c1 c2 c3 c4 c5 => (k2 c c5).trans (hJc c c1 c2 c3 c4)
                refine ⟨J 65 b, J, K, ?_, ?_, ⟨fun c hc => fr c (by omega) (by omega) (by omega) (by omega) (by omega), fun j _ => by rw [fr 76 (by decide) (by decide) (by decide) (by decide) (by decide)], fr 77 (by decide) (by decide) (by decide) (by decide) (by decide), by rw [fr 75 (by decide) (by decide) (by decide) (by decide) (by decide)], by rw [fr 75 (by decide) (by decide) (by decide) (by decide) (by decide)], fr 1999 (by decide) (by decide) (by decide) (by decide) (by decide)⟩, hJc 1999 (by decide) (by decide) (by decide) (by decide)⟩
                · rw [j1, o_b1_s, g_65 (by omega), o_g_t, i_cl (by omega)]
                · show m_304 75 (nI k) (nI a) (nI b) (nI 1) J (Rc t) (Gc L) = _
                  rw [er J h76, if_pos (by decide), if_pos rfl, k1, o_b1_s, g_88 (by omega), o_g_t, i_cl (by omega), e]
            · refine ⟨-2147483648, I, I, ?_, ?_, SAME_rf, rfl⟩
              · by_cases h1 : z < 0
                · rw [if_pos h1]
                · rw [if_neg h1, if_neg (fun h2 => hz ⟨Int32.not_lt.1 h1, h2⟩)]
              · show m_304 75 (nI k) (nI a) (nI b) z I (Rc t) (Gc L) = _
                rw [er I rfl, if_neg hz]
          · rw [if_neg hB]
            refine ⟨_, I, I, rfl, ?_, SAME_rf, rfl⟩
            show m_304 75 (nI k) (nI a) (nI b) z I (Rc t) (Gc L) = _
            unfold m_304
            rw [s_200, o_b1_s, q_bz, if_pos (nI_in03 hk), s_199 (by omega) (by omega), o_b1_s, q_bz, if_pos hA, s_199 (by omega) (by omega), o_b1_s, q_bz, if_neg hB]
        · rw [c_122o hW hC hy, o_b1_s, q_00]
          refine ⟨_, I, I, rfl, ?_, SAME_rf, rfl⟩
          show m_304 75 (nI k) (nI a) y z I (Rc t) (Gc L) = _
          unfold m_304
          rw [s_200, o_b1_s, q_bz, if_pos (nI_in03 hk), s_199 (by omega) (by omega), o_b1_s, q_bz, if_pos hA, s_199o hy, o_b1_s, q_00]
      · rw [if_neg hA]
        refine ⟨_, I, I, rfl, ?_, SAME_rf, rfl⟩
        show m_304 75 (nI k) (nI a) y z I (Rc t) (Gc L) = _
        unfold m_304
        rw [s_200, o_b1_s, q_bz, if_pos (nI_in03 hk), s_199 (by omega) (by omega), o_b1_s, q_bz, if_neg hA]
    · rw [c_122o hW hC hx, o_b1_s, q_00]
      refine ⟨_, I, I, rfl, ?_, SAME_rf, rfl⟩
      show m_304 75 (nI k) x y z I (Rc t) (Gc L) = _
      unfold m_304
      rw [s_200, o_b1_s, q_bz, if_pos (nI_in03 hk), s_199o hx, o_b1_s, q_00]
  · refine ⟨-2147483648, I, I, ?_, ?_, SAME_rf, rfl⟩
    · unfold m_166
      rw [r_1_0, k_2, o_g_t, c_96o hs, o_b1_s, if_pos rfl]
    · show m_304 75 s x y z I (Rc t) (Gc L) = _
      unfold m_304
      rw [s_200, o_b1_s, q_bz, if_neg hs]
