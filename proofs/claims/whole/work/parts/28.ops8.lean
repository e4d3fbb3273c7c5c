/-! Two shelves: call far. -/
theorem fd_rel {α β : Type} {f : Nat → α → α} {g : Nat → β → β} (R : α → β → Prop) : ∀ {l : List Nat} {a : α} {b : β}, R a b → (∀ x ∈ l, ∀ a b, R a b → R (f x a) (g x b)) → R (fd f l a) (fd g l b)
  | [], a, b, h, hs => h
  | x :: l, a, b, h, hs => fd_rel R (l := l) (hs x (List.mem_cons_self ..) a b h) (fun y hy => hs y (List.mem_cons_of_mem _ hy))
section
variable {I : ai_I} {t L v w n r n2 r2 : Nat} {V W : Nat → Int32}
theorem c_185 (hv : v ∈ VC) (hw : w ∈ VC) (hn : n ≤ 8) (hn2 : n2 ≤ 8) (h : I v 0 = nI n) (h2 : I w 0 = nI n2) : m_185 v w I (Gc L) = some (bz (n = n2)) := by
  have a1 := vc_51 v hv
  have a2 := vc_51 w hw
  unfold m_185
  rw [if_neg (by omega), if_neg (by omega), v_kd hv, v_kd hw, o_g_t, o_g_t, h, h2, q_eq (by omega) (by omega)]
  by_cases e : n = n2
  · rw [if_pos e, bz_t e]
  · rw [if_neg e, bz_f e]
theorem c_186 (hv : v ∈ VC) (hw : w ∈ VC) (hW : WF n r V) (hW2 : WF n2 r2 W) (h : CS I v n r V) (h2 : CS I w n2 r2 W) : m_186 v w I (Gc L) = some (bz (n = n2 ∧ r = r2)) := by
  have b1 := hW.2.1
  have b2 := hW2.2.1
  have b3 := hW.2.2.2.1
  have b4 := hW2.2.2.2.1
  unfold m_186
  rw [c_185 hv hw b1 b2 h.1 h2.1, o_b1_s, q_bz, v_kd hv, v_kd hw, o_g_t, o_g_t, h.2.1, h2.2.1, q_eq (by omega) (by omega)]
  by_cases e : n = n2
  · by_cases e2 : r = r2
    · rw [if_pos e, if_pos e2, bz_t ⟨e, e2⟩]
    · rw [if_pos e, if_neg e2, bz_f (fun h => e2 h.2)]
  · rw [if_neg e, bz_f (fun h => e h.1)]
end
theorem c_186o {I : ai_I} {L a b : Nat} (h : a = 0 ∨ (¬ a = 0 ∧ b = 0)) : m_186 a b I (Gc L) = some (nI 0) := by
  unfold m_186 m_185
  rcases h with h | ⟨h, h2⟩
  · rw [if_pos h, o_b1_s, q_00]
  · rw [if_neg h, if_pos h2, o_b1_s, q_00]
theorem s_203 {I : ai_I} {t L k l n n2 r r2 : Nat} (hk : k < 4) (hl : l < 4) (b1 : n ≤ 8) (b2 : n2 ≤ 8) (b3 : r ≤ 8) (b4 : r2 ≤ 8) (h : I 76 (258 * k) = nI n) (h2 : I 76 (258 * l) = nI n2) (h3 : I 76 (258 * k + 1) = nI r) (h4 : I 76 (258 * l + 1) = nI r2) : m_203 75 (nI k) (nI l) I (Rc t) (Gc L) = some (bz (n = n2 ∧ r = r2)) := by
  unfold m_203
  rw [s_200, o_b1_s, q_bz, if_pos (nI_in03 (by omega)), s_200, o_b1_s, q_bz, if_pos (nI_in03 (by omega)), s_195 (by omega), o_b1_s, s_195 (by omega), o_b1_s, s_196 (by omega), o_b1_s, s_196 (by omega), o_b1_s, h, h2, h3, h4, q_eq (by omega) (by omega), q_eq (by omega) (by omega)]
  by_cases e : n = n2
  · by_cases e2 : r = r2
    · rw [if_pos e, if_pos e2, bz_t ⟨e, e2⟩]
    · rw [if_pos e, if_neg e2, bz_f (fun h => e2 h.2)]
  · rw [if_neg e, bz_f (fun h => e h.1)]
theorem s_203o {I : ai_I} {t L : Nat} {x y : Int32} (h : ¬ (nI 0 ≤ x ∧ x ≤ nI 3) ∨ ((nI 0 ≤ x ∧ x ≤ nI 3) ∧ ¬ (nI 0 ≤ y ∧ y ≤ nI 3))) : m_203 75 x y I (Rc t) (Gc L) = some (nI 0) := by
  unfold m_203
  rw [s_200, o_b1_s, q_bz]
  rcases h with h | ⟨h, h2⟩
  · rw [if_neg h]
  · rw [if_pos h, s_200, o_b1_s, q_bz, if_neg h2]
/-- the smaller -/
def mn (a b : Int32) : Int32 := if b ≤ a then b else a
theorem mn_lt (a b : Int32) : (if b < a then b else a) = mn a b := by
  unfold mn
  by_cases h : b < a
  · rw [if_pos h, if_pos (Int32.le_of_lt h)]
  · rw [if_neg h]
    by_cases h2 : b ≤ a
    · rw [if_pos h2]
      exact Int32.le_antisymm (Int32.not_lt.1 h) h2
    · rw [if_neg h2]
def f1far (V W : Nat → Int32) (x : Nat) (a : Int32 × Int32 × Bool) : Int32 × Int32 × Bool := if W x ≠ NO then (if a.2.2 = true then (mx a.1 (V x - W x), mn a.2.1 (V x - W x), true) else (V x - W x, V x - W x, true)) else a
def f2far (V W : Nat → Int32) (x : Nat) (a : Int32 × Int32) : Int32 × Int32 := if W x ≠ NO then (mx a.1 (V x - W x), mn a.2 (V x - W x)) else a
theorem c_30 {I : ai_I} {t L v w n r n2 r2 : Nat} {V W : Nat → Int32} (hv : v ∈ VC) (hw : w ∈ VC) (hW : WF n r V) (hW2 : WF n2 r2 W) (h : CS I v n r V) (h2 : CS I w n2 r2 W) : m_30 v w I (Rc t) (Gc L) = some (if (fd (f1far V W) (BL V) (nI 0, nI 0, false)).2.2 = true then (fd (f1far V W) (BL V) (nI 0, nI 0, false)).1 - (fd (f1far V W) (BL V) (nI 0, nI 0, false)).2.1 else -2) := by
  have hl := BL_len hW
  unfold m_30
  refine lp_fd_s1 (fun k (a : Int32 × Int32 × Bool) => (a.1, a.2.1, bz (a.2.2 = true), nI k)) (fun k a => f1far V W ((BL V).getD k 0) a) (fun a => (a.1, a.2.1, bz (a.2.2 = true))) (fun _ _ => True) (BL V).length (nI 0, nI 0, false) ?_ ?_ trivial (by omega) ?_
  · intro k a hk _
    have hb := BL_at hk
    refine ⟨trivial, ?_⟩
    show m_30_b10 v w I (Rc t) (Gc L) a.1 a.2.1 (bz (a.2.2 = true)) (nI k) = _
    unfold m_30_b10 m_30_j70
    rw [v_kd hv, o_g_t, h.2.2.1, q_leF (by omega) hk, v_rb hv, v_gb hv (by omega), o_g_t, i_cl (by omega), h.2.2.2.2.2 k hk, o_b1_s, v_kd hw, o_g_t, c_122 hw hW2 h2 hb.1, o_b1_s, q_bz, v_rv hv, v_gv hv hb.1, o_g_t, v_rv hw, v_gv hw hb.1, o_g_t, i_cl (by omega), h.2.2.2.1 _ hb.1, h2.2.2.2.1 _ hb.1]
    simp only [o_b1_s, q_bz, i_add, mx_lt, mn_lt]
    unfold f1far
    by_cases c1 : W ((BL V).getD k 0) ≠ NO
    · rw [if_pos c1, if_pos c1]
      by_cases c2 : a.2.2 = true
      · rw [if_pos c2, if_pos c2, if_pos c2]
        rfl
      · rw [if_neg c2, if_neg c2, if_neg c2]
        rfl
    · rw [if_neg c1, if_neg c1]
  · intro a _
    show m_30_b10 v w I (Rc t) (Gc L) a.1 a.2.1 (bz (a.2.2 = true)) (nI (BL V).length) = _
    unfold m_30_b10
    rw [v_kd hv, o_g_t, h.2.2.1, q_leT (by omega) (Nat.le_refl _)]
  · rw [show fd (fun k a => f1far V W ((BL V).getD k 0) a) (List.range (BL V).length) (nI 0, nI 0, false) = fd (f1far V W) (BL V) (nI 0, nI 0, false) from fd_get (f1far V W) 0 (BL V) _]
    show m_30_x10_97 _ _ (bz _) = _
    unfold m_30_x10_97
    rw [q_bz]
    split <;> rfl
theorem dif_le {a b : Int32} (h1 : -1000000 ≤ a) (h2 : a ≤ 1000000) (h3 : -1000000 ≤ b) (h4 : b ≤ 1000000) : a - b ≤ nI 2000000 := by
  rw [Int32.le_iff_toInt_le] at h1 h2 h3 h4 ⊢
  rw [show (-1000000 : Int32).toInt = -1000000 from by decide] at h1 h3
  rw [show (1000000 : Int32).toInt = 1000000 from by decide] at h2 h4
  rw [nI_toInt (by decide), Int32.toInt_sub]
  unfold Int.bmod
  dsimp only
  split <;> omega
theorem op_far {I : ai_I} {t L : Nat} (h : ST I) (s u : Int32) : OPr (m_172 1 s u I (Rc t) (Gc L)) (m_321 75 s u I (Rc t) (Gc L)) := by
  unfold m_172 m_321
  rw [r_1_0, k_2, o_g_t]
  rcases x_cases s (n := 3) (by decide) with ⟨k, hk, rfl⟩ | hs
  · rw [c_96 (by omega), o_b1_s]
    rcases x_cases u (n := 3) (by decide) with ⟨l, hl, rfl⟩ | hu
    · obtain ⟨n, r, hW, hC, hI, hIr⟩ := h.1 k (by omega)
      obtain ⟨n2, r2, hW2, hC2, hI2, hIr2⟩ := h.1 l (by omega)
      have b1 := hW.2.1
      have b2 := hW2.2.1
      have b3 := hW.2.2.2.1
      have b4 := hW2.2.2.2.1
      have hv := vc_s (s := k) (by omega)
      have hv2 := vc_s (s := l) (by omega)
      rw [c_96 (by omega), o_b1_s, c_186 hv hv2 hW hW2 hC hC2, s_203 (by omega) (by omega) b1 b2 (by omega) (by omega) hI hI2 hIr hIr2, o_b1_s, o_b1_s, q_bz, q_bz]
      by_cases e : n = n2 ∧ r = r2
      · rw [if_pos e, if_pos e, c_30 hv hv2 hW hW2 hC hC2, o_b1_s]
        refine ⟨_, rfl, ?_⟩
        refine lp_fd_s1 (fun k (a : Int32 × Int32) => (a.1, a.2, nI k)) (fun x a => if decide (FV I k x ≠ NO) = true then f2far (FV I k) (FV I l) x a else a) (fun a => (a.1, a.2)) (fun _ _ => True) 256 (NO, nI 1000000000) ?_ ?_ trivial (by decide) ?_
        · intro x a hx _
          refine ⟨trivial, ?_⟩
          show m_321_b22 75 (nI k) (nI l) I (Rc t) (Gc L) a.1 a.2 (nI x) = _
          unfold m_321_b22 m_281
          rw [q_leF (by omega) hx, s_199 (by omega) hx, s_199 (by omega) hx, s_198 (by omega) hx, s_198 (by omega) hx]
          simp only [o_b1_s, q_bz, i_add, s_191, s_190]
          unfold f2far
          by_cases c1 : FV I k x ≠ NO
          · rw [if_pos c1, if_pos (decide_eq_true c1)]
            by_cases c2 : FV I l x ≠ NO
            · rw [if_pos c2, if_pos c2, o_b1_s, q_10]
              rfl
            · rw [if_neg c2, if_neg c2, o_b1_s, q_00]
          · rw [if_neg c1, if_neg (fun h2 => c1 (of_decide_eq_true h2)), o_b1_s, q_00]
        · intro a _
          show m_321_b22 75 (nI k) (nI l) I (Rc t) (Gc L) a.1 a.2 (nI 256) = _
          unfold m_321_b22
          rw [q_leT (by decide) (Nat.le_refl _)]
        · rw [fd_filter]
          have hR := fd_rel (f := f1far (FV I k) (FV I l)) (g := f2far (FV I k) (FV I l)) (fun a b => (a.2.2 = false ∧ b.1 = NO ∧ b.2 = nI 1000000000) ∨ (a.2.2 = true ∧ a.1 = b.1 ∧ a.2.1 = b.2 ∧ b.2 ≤ nI 2000000)) (l := BL (FV I k)) (a := (nI 0, nI 0, false)) (b := (NO, nI 1000000000)) (Or.inl ⟨rfl, rfl, rfl⟩) (fun x hx a b hab => by
            have hxk := BL_mem.1 hx
            unfold f1far f2far
            by_cases c2 : FV I l x ≠ NO
            · rw [if_pos c2, if_pos c2]
              have w1 := (hW.2.2.2.2.1 x hxk.1 hxk.2).2.2
              have w2 := (hW2.2.2.2.2.1 x hxk.1 c2).2.2
              have hd := dif_le w1.1 w1.2 w2.1 w2.2
              rcases hab with ⟨a1, a2, a3⟩ | ⟨a1, a2, a3, a4⟩
              · rw [if_neg (by rw [a1]; decide)]
                refine Or.inr ⟨rfl, ?_, ?_, ?_⟩
                · show FV I k x - FV I l x = mx b.1 (FV I k x - FV I l x)
                  unfold mx
                  rw [a2]
                  rw [if_pos (Int32.minValue_le _)]
                · show FV I k x - FV I l x = mn b.2 (FV I k x - FV I l x)
                  unfold mn
                  rw [a3, if_pos (Int32.le_trans hd (nI_le (by decide) (by decide)))]
                · show mn b.2 (FV I k x - FV I l x) ≤ nI 2000000
                  unfold mn
                  rw [a3, if_pos (Int32.le_trans hd (nI_le (by decide) (by decide)))]
                  exact hd
              · rw [if_pos a1]
                refine Or.inr ⟨rfl, ?_, ?_, ?_⟩
                · show mx a.1 _ = mx b.1 _
                  rw [a2]
                · show mn a.2.1 _ = mn b.2 _
                  rw [a3]
                · show mn b.2 (FV I k x - FV I l x) ≤ nI 2000000
                  unfold mn
                  split
                  · exact hd
                  · exact a4
            · rw [if_neg c2, if_neg c2]
              exact hab)
          show m_321_x22_92 (fd (f2far (FV I k) (FV I l)) (BL (FV I k)) (NO, nI 1000000000)).1 (fd (f2far (FV I k) (FV I l)) (BL (FV I k)) (NO, nI 1000000000)).2 = _
          unfold m_321_x22_92
          rcases hR with ⟨a1, a2, a3⟩ | ⟨a1, a2, a3, a4⟩
          · rw [if_pos a3, if_neg (by rw [a1]; decide)]
          · rw [if_neg (fun h9 => ?_), if_pos a1, a2, a3]
            rw [h9] at a4
            exact absurd a4 (by decide)
      · rw [if_neg e, if_neg e]
        exact ⟨_, rfl, rfl⟩
    · rw [c_96o hu, o_b1_s, c_186o (Or.inr ⟨by omega, rfl⟩), s_203o (Or.inr ⟨nI_in03 hk, hu⟩), o_b1_s, o_b1_s, q_00, q_00]
      exact ⟨_, rfl, rfl⟩
  · obtain ⟨a, ha⟩ := c_96e (t := t) (L := L) u
    rw [c_96o hs, o_b1_s, ha, o_b1_s, c_186o (Or.inl rfl), s_203o (Or.inl hs), o_b1_s, o_b1_s, q_00, q_00]
    exact ⟨_, rfl, rfl⟩
