/-! Out of whole's part 79h.less, by wip/p46/extract.py. -/
def wo (e k : Nat) : Nat := (k &&& (2 ^ e - 1)) ||| (k / 2 ^ (e + 1) * 2 ^ e)
theorem wo_c : ∀ e, e < 8 → ∀ k, k < 256 → (k &&& (2 ^ e - 1)) ||| sd (k / 2 ^ 1) (2 ^ e - 1) = wo e k := by decide +kernel
theorem wo_lt : ∀ e, e < 8 → ∀ k, k < 256 → wo e k < 256 ∧ k / 2 ^ (e + 1) < 256 := by decide +kernel
theorem wo_un : ∀ e, e < 8 → ∀ k, k < 256 → (wo e k &&& (2 ^ e - 1)) ||| ((if k.testBit e = true then 2 ^ e else 0) ||| (wo e k / 2 ^ e * 2 ^ (e + 1))) = k := by decide +kernel
theorem wo_inj {e a b : Nat} (he : e < 8) (ha : a < 256) (hb : b < 256) (h : a.testBit e = b.testBit e) (h2 : wo e a = wo e b) : a = b := by
  rw [← wo_un e he a ha, ← wo_un e he b hb, h, h2]
def hal (V : Nat → Int32) (e : Nat) (w : Bool) (k : Nat) : Int32 := if k.testBit e = w then V k else NO
theorem hal_inj {V : Nat → Int32} {e : Nat} {w : Bool} (he : e < 8) : ∀ a b, a < 256 → b < 256 → hal V e w a ≠ NO → hal V e w b ≠ NO → wo e a = wo e b → a = b := by
  intro a b ha hb h1 h2 h3
  unfold hal at h1 h2
  by_cases c : a.testBit e = w
  · by_cases c2 : b.testBit e = w
    · exact wo_inj he ha hb (c.trans c2.symm) h3
    · rw [if_neg c2] at h2
      exact absurd rfl h2
  · rw [if_neg c] at h1
    exact absurd rfl h1
def lsd (V : Nat → Int32) (e : Nat) (w : Bool) (k : Nat) : Nat → Int32 := od (hal V e w) (wo e) V k
theorem lsd_f {V : Nat → Int32} {e k : Nat} {w : Bool} (h : V k = NO ∨ ¬ k.testBit e = w) : lsd V e w (k + 1) = lsd V e w k := od_f (by
  unfold hal
  by_cases c : k.testBit e = w
  · rw [if_pos c]
    exact h.resolve_right (fun h => h c)
  · rw [if_neg c])
theorem lsd_t {V : Nat → Int32} {e k : Nat} {w : Bool} (h : V k ≠ NO) (h2 : k.testBit e = w) : lsd V e w (k + 1) = va_up (lsd V e w k) (wo e k) (mx (lsd V e w k (wo e k)) (V k)) := od_t (by
  unfold hal
  rw [if_pos h2]
  exact h)
theorem c_50 {I : ai_I} {t v n r e : Nat} {L : ai_G} {V : Nat → Int32} {w : Bool} (hv : v ∈ VC) (hv4 : v < 40) (hW : WF n r V) (h : CS I v n r V) (he : e < n) : wp (m_39 49 v (nI e) (nI w.toNat) I (Rc t) (Gc L)) (fun q => (q.1 = nI 0 ∧ q.2 = I ∧ ¬ ((nI 2 ≤ nI (n - 1) ∧ nI (n - 1) ≤ nI 8) ∧ nI 1 ≤ nI (r - w.toNat) ∧ nI (r - w.toNat) ≤ nI (n - 1) - nI 1)) ∨ (q.1 = nI 1 ∧ (2 ≤ n - 1 ∧ 1 ≤ r - w.toNat ∧ r - w.toNat < n - 1) ∧ MC I q.2 (n - 1) (r - w.toNat) (lsd V e w 256))) := by
  have b1 := hW.1
  have b2 := hW.2.1
  have b3 := hW.2.2.1
  have b4 := hW.2.2.2.1
  have hl := BL_len hW
  have hw1 : w.toNat ≤ 1 := by cases w <;> decide
  have hbz : nI w.toNat = bz (w = true) := by cases w <;> decide
  unfold m_39
  rw [v_kd hv, o_g_t, c_120' b2 (by omega) h.1, o_b1_s, q_bz, if_pos ⟨nI_le (Nat.zero_le _) (by omega), nI_le (by omega) (by omega)⟩, h.1, h.2.1, i_sub (by omega), i_sub (by omega)]
  refine wp_b2 (wp_mono (c_41 (t := t) (L := L) (I := I) (nI (n - 1)) (nI (r - w.toNat))) ?_)
  rintro q (⟨q1, q0, q3⟩ | ⟨q1, a, b, a1, a2, a3, a4, a5, a6, q2⟩)
  · rw [q1, q_00, wp_s]
    exact Or.inl ⟨rfl, q0, q3⟩
  · rw [i_eq (by omega) (by omega)] at a5 a6
    subst a5 a6
    rw [q1, q_10, i_shl (by decide) (by omega), Nat.one_mul, i_sub (Nat.two_pow_pos e), o_b1_s]
    refine wp_s1 (wp_lpB V (fun p (J : ai_I) => (nI p, J)) (fun k J => MC I J (n - 1) (r - w.toNat) (lsd V e w k)) (x0 := q.2) hl q2 ?_ ?_ ?_)
    · intro k J hk hV hM
      rw [lsd_f (Or.inl hV)]
      exact hM
    · intro p J hp hM
      have hb := BL_at hp
      unfold m_39_b39
      dsimp only
      generalize hbb : (BL V).getD p 0 = bb at hb hM ⊢
      have hlt := (wo_lt e (by omega) bb hb.1).1
      rw [if_neg (show ¬ J v 2 ≤ nI p by rw [hM.1 v (by omega) (by omega), h.2.2.1]; exact nI_ge hp (by omega)), v_rb hv, v_gb hv (by omega), o_g_t, i_cl (by omega), hM.1 (v + 3) (by omega) (by omega), h.2.2.2.2.2 p hp, hbb, o_b1_s, bit1 bb hb.1 e (by omega), hbz]
      by_cases c : bb.testBit e = w
      · rw [if_pos (show bz (bb.testBit e = true) = bz (w = true) by rw [bzw]; exact c), v_rv hv, v_gv hv hb.1, o_g_t, r_49_0, k_50, o_g_t, i_shr hb.1 (by decide), i_and, i_sd, i_or, wo_c e (by omega) bb hb.1, i_cl (by omega), hM.1 (v + 1) (by omega) (by omega), h.2.2.2.1 _ hb.1]
        refine wp_b1 (wp_mono (c_113 (t := t) (L := L) (k := wo e bb) (x := V bb) hM hlt) ?_)
        intro K hK
        rw [i_add, o_b1_s, wp_s, lq_l]
        refine ⟨K, rfl, ?_⟩
        rw [lsd_t hb.2 c]
        exact hK
      · rw [if_neg (show ¬ bz (bb.testBit e = true) = bz (w = true) by rw [bzw]; exact c), i_add, o_b1_s, wp_s, lq_l]
        refine ⟨J, rfl, ?_⟩
        rw [lsd_f (Or.inr c)]
        exact hM
    · intro J hM
      unfold m_39_b39
      dsimp only
      rw [if_pos (show J v 2 ≤ nI (BL V).length by rw [hM.1 v (by omega) (by omega), h.2.2.1]; exact Int32.le_refl _), wp_s, lq_r]
      exact ⟨(nI 1, J), rfl, Or.inr ⟨rfl, ⟨a2, a3, a4⟩, hM⟩⟩
