/-! Makers: without, by. -/
def wo (e k : Nat) : Nat := (k &&& (2 ^ e - 1)) ||| (k / 2 ^ (e + 1) * 2 ^ e)
theorem wo_c : ∀ e, e < 8 → ∀ k, k < 256 → (k &&& (2 ^ e - 1)) ||| sd (k / 2 ^ 1) (2 ^ e - 1) = wo e k := by decide +kernel
theorem wo_lt : ∀ e, e < 8 → ∀ k, k < 256 → wo e k < 256 ∧ k / 2 ^ (e + 1) < 256 := by decide +kernel
theorem wo_un : ∀ e, e < 8 → ∀ k, k < 256 → (wo e k &&& (2 ^ e - 1)) ||| ((if k.testBit e = true then 2 ^ e else 0) ||| (wo e k / 2 ^ e * 2 ^ (e + 1))) = k := by decide +kernel
theorem wo_inj {e a b : Nat} (he : e < 8) (ha : a < 256) (hb : b < 256) (h : a.testBit e = b.testBit e) (h2 : wo e a = wo e b) : a = b := by
  rw [← wo_un e he a ha, ← wo_un e he b hb, h, h2]
def hal (V : Nat → Int32) (e : Nat) (w : Bool) (k : Nat) : Int32 := if k.testBit e = w then V k else NO
theorem hal_inj {V : Nat → Int32} {e : Nat} {w : Bool} (he : e < 8) : ∀ a b, a < 256 → b < 256 → hal V e w a ≠ NO → hal V e w b ≠ NO → wo e a = wo e b → a = b := by
  intro a b ha hb h1 h2 h3
  unfold hal at h1 h2
  by_cases c : a.testBit e = w
  · by_cases c2 : b.testBit e = w
    · exact wo_inj he ha hb (c.trans c2.symm) h3
    · rw [if_neg c2] at h2
      exact absurd rfl h2
  · rw [if_neg c] at h1
    exact absurd rfl h1
def lsd (V : Nat → Int32) (e : Nat) (w : Bool) (k : Nat) : Nat → Int32 := od (hal V e w) (wo e) V k
theorem lsd_f {V : Nat → Int32} {e k : Nat} {w : Bool} (h : V k = NO ∨ ¬ k.testBit e = w) : lsd V e w (k + 1) = lsd V e w k := od_f (by
  unfold hal
  by_cases c : k.testBit e = w
  · rw [if_pos c]
    exact h.resolve_right (fun h => h c)
  · rw [if_neg c])
theorem lsd_t {V : Nat → Int32} {e k : Nat} {w : Bool} (h : V k ≠ NO) (h2 : k.testBit e = w) : lsd V e w (k + 1) = va_up (lsd V e w k) (wo e k) (mx (lsd V e w k (wo e k)) (V k)) := od_t (by
  unfold hal
  rw [if_pos h2]
  exact h)
theorem c_50 {I : ai_I} {t L v n r e : Nat} {V : Nat → Int32} {w : Bool} (hv : v ∈ VC) (hv4 : v < 40) (hW : WF n r V) (h : CS I v n r V) (he : e < n) : wp (m_50 49 v (nI e) (nI w.toNat) I (Rc t) (Gc L)) (fun q => (q.1 = nI 0 ∧ q.2 = I ∧ ¬ ((nI 2 ≤ nI (n - 1) ∧ nI (n - 1) ≤ nI 8) ∧ nI 1 ≤ nI (r - w.toNat) ∧ nI (r - w.toNat) ≤ nI (n - 1) - nI 1)) ∨ (q.1 = nI 1 ∧ (2 ≤ n - 1 ∧ 1 ≤ r - w.toNat ∧ r - w.toNat < n - 1) ∧ MC I q.2 (n - 1) (r - w.toNat) (lsd V e w 256))) := by
  have b1 := hW.1
  have b2 := hW.2.1
  have b3 := hW.2.2.1
  have b4 := hW.2.2.2.1
  have hl := BL_len hW
  have hw1 : w.toNat ≤ 1 := by cases w <;> decide
  have hbz : nI w.toNat = bz (w = true) := by cases w <;> decide
  unfold m_50
  rw [v_kd hv, o_g_t, c_120' b2 (by omega) h.1, o_b1_s, q_bz, if_pos ⟨nI_le (Nat.zero_le _) (by omega), nI_le (by omega) (by omega)⟩, h.1, h.2.1, i_sub (by omega), i_sub (by omega)]
  refine wp_b2 (wp_mono (c_41 (t := t) (L := L) (I := I) (nI (n - 1)) (nI (r - w.toNat))) ?_)
  rintro q (⟨q1, q0, q3⟩ | ⟨q1, a, b, a1, a2, a3, a4, a5, a6, q2⟩)
  · rw [q1, q_00, wp_s]
    exact Or.inl ⟨rfl, q0, q3⟩
  · rw [i_eq (by omega) (by omega)] at a5 a6
    subst a5 a6
    rw [q1, q_10, i_shl (by decide) (by omega), Nat.one_mul, i_sub (Nat.two_pow_pos e), o_b1_s]
    refine wp_s1 (wp_lpB V (fun p (J : ai_I) => (nI p, J)) (fun k J => MC I J (n - 1) (r - w.toNat) (lsd V e w k)) (x0 := q.2) hl q2 ?_ ?_ ?_)
    · intro k J hk hV hM
      rw [lsd_f (Or.inl hV)]
      exact hM
    · intro p J hp hM
      have hb := BL_at hp
      unfold m_50_b39
      dsimp only
      generalize hbb : (BL V).getD p 0 = bb at hb hM ⊢
      have hlt := (wo_lt e (by omega) bb hb.1).1
      rw [if_neg (show ¬ J v 2 ≤ nI p by rw [hM.1 v (by omega) (by omega), h.2.2.1]; exact nI_ge hp (by omega)), v_rb hv, v_gb hv (by omega), o_g_t, i_cl (by omega), hM.1 (v + 3) (by omega) (by omega), h.2.2.2.2.2 p hp, hbb, o_b1_s, bit1 bb hb.1 e (by omega), hbz]
      by_cases c : bb.testBit e = w
      · rw [if_pos (show bz (bb.testBit e = true) = bz (w = true) by rw [bzw]; exact c), v_rv hv, v_gv hv hb.1, o_g_t, r_49_0, k_50, o_g_t, i_shr hb.1 (by decide), i_and, i_sd, i_or, wo_c e (by omega) bb hb.1, i_cl (by omega), hM.1 (v + 1) (by omega) (by omega), h.2.2.2.1 _ hb.1]
        refine wp_b1 (wp_mono (c_113 (t := t) (L := L) (k := wo e bb) (x := V bb) hM hlt) ?_)
        intro K hK
        rw [i_add, o_b1_s, wp_s, lq_l]
        refine ⟨K, rfl, ?_⟩
        rw [lsd_t hb.2 c]
        exact hK
      · rw [if_neg (show ¬ bz (bb.testBit e = true) = bz (w = true) by rw [bzw]; exact c), i_add, o_b1_s, wp_s, lq_l]
        refine ⟨J, rfl, ?_⟩
        rw [lsd_f (Or.inr c)]
        exact hM
    · intro J hM
      unfold m_50_b39
      dsimp only
      rw [if_pos (show J v 2 ≤ nI (BL V).length by rw [hM.1 v (by omega) (by omega), h.2.2.1]; exact Int32.le_refl _), wp_s, lq_r]
      exact ⟨(nI 1, J), rfl, Or.inr ⟨rfl, ⟨a2, a3, a4⟩, hM⟩⟩
theorem s_231 {k e : Nat} (hk : k < 256) (he : e < 8) : m_231 (nI k) (nI e) = some (nI (wo e k)) := by
  unfold m_231
  rw [i_shl (by decide) (by omega), Nat.one_mul, i_sub (Nat.two_pow_pos e), i_and, o_b1_s, i_add, i_shr hk (by omega), i_shl (wo_lt e he k hk).2 (by omega), i_or]
  rfl
theorem s_232 {I J : ai_I} {t L n r e : Nat} {V : Nat → Int32} {w : Bool} (hn : 1 ≤ n) (hr : 1 ≤ r) (he : e < 8) (h : MR I J (nI n) (nI r) V) : wp (m_232 75 (nI e) (nI w.toNat) J (Rc t) (Gc L)) (fun K => MR I K (nI (n - 1)) (nI (r - w.toNat)) (lsd V e w 256)) := by
  have hbz : nI w.toNat = bz (w = true) := by cases w <;> decide
  unfold m_232
  refine wp_b1 (wp_mono (s_229 h) ?_)
  rintro M ⟨hM, m2⟩
  have go : wp (m_232_j28 75 (nI e) (nI w.toNat) (Rc t) (Gc L) M (nI (r - w.toNat))) (fun K => MR I K (nI (n - 1)) (nI (r - w.toNat)) (lsd V e w 256)) := by
    unfold m_232_j28
    rw [hM.2.2.1, i_sub hn]
    refine wp_b1 (wp_mono (s_219 (n := nI (n - 1)) (r := nI (r - w.toNat)) hM.1 hM.2.1) ?_)
    rintro M2 ⟨hM2, m3⟩
    refine wp_s1 (wp_lp (fun k s => s.1 = nI k ∧ (∀ j, j < 256 → s.2 82 j = V j) ∧ MR I s.2 (nI (n - 1)) (nI (r - w.toNat)) (lsd V e w k)) 0 256 (Nat.zero_le _) (by omega) ⟨rfl, fun j hj => by dsimp only; rw [m3]; exact m2 j hj, hM2⟩ ?_ ?_)
    · rintro k ⟨s, K⟩ hk ⟨g1, g2, g3⟩
      dsimp only at g1 g2 g3
      subst g1
      have hlt := (wo_lt e he k hk).1
      unfold m_232_b33
      dsimp only
      rw [if_neg (nI_ge hk (by decide)), r_75_17, g_82 hk, o_g_t, i_cl (by omega)]
      by_cases c : V k = NO
      · rw [if_pos (show K 82 k = -2147483648 by rw [g2 k hk]; exact c), i_add, o_b1_s, wp_s, lq_l]
        refine ⟨rfl, g2, ?_⟩
        rw [lsd_f (Or.inl c)]
        exact g3
      · rw [if_neg (show ¬ K 82 k = -2147483648 by rw [g2 k hk]; exact c), s_192 hk (by omega), o_b1_s, hbz]
        by_cases c2 : k.testBit e = w
        · rw [if_pos (show bz (k.testBit e = true) = bz (w = true) by rw [bzw]; exact c2), s_231 hk he, o_b1_s, o_g_t, r_75_16, g_81 hlt, o_g_t, i_cl (by omega), g2 k hk, o_b1_s, i_add, o_b1_s, wp_s, lq_l]
          refine ⟨rfl, fun j hj => by dsimp only; rw [up_ne (by decide)]; exact g2 j hj, ?_⟩
          have hno : lsd V e w k (wo e k) = NO := (od_inj (V := hal V e w) (g := V) (N := 256) (hal_inj he) k (by omega) (wo e k)).2 (fun b hb hV2 e2 => by
            have := hal_inj (V := V) (w := w) he b k (by omega) hk hV2 (by unfold hal; rw [if_pos c2]; exact c) e2
            omega)
          rw [lsd_t c c2, hno, mx_no]
          exact MR_up g3
        · rw [if_neg (show ¬ bz (k.testBit e = true) = bz (w = true) by rw [bzw]; exact c2), i_add, o_b1_s, wp_s, lq_l]
          refine ⟨rfl, g2, ?_⟩
          rw [lsd_f (Or.inr c2)]
          exact g3
    · rintro ⟨s, K⟩ ⟨g1, g2, g3⟩
      dsimp only at g1 g2 g3
      subst g1
      unfold m_232_b33
      dsimp only
      rw [if_pos (Int32.le_refl _), wp_s, lq_r]
      exact ⟨K, rfl, g3⟩
  rw [hM.2.2.2.1]
  cases w
  · rw [if_pos (show nI (Bool.toNat false) = 0 from rfl)]
    exact go
  · rw [if_neg (show ¬ nI (Bool.toNat true) = 0 by decide), i_sub hr]
    exact go
