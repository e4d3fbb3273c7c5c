/-! Out of whole's part 79a.dual, by wip/p46/extract.py. -/
theorem MC_cong {I J : ai_I} {n r : Nat} {V V2 : Nat → Int32} (h : MC I J n r V) (e : ∀ k, k < 256 → V k = V2 k) : MC I J n r V2 := ⟨h.1, h.2.1, h.2.2.1, fun k hk => (h.2.2.2 k hk).trans (e k hk)⟩
def al (n : Nat) : Nat := 2 ^ n - 1
theorem al_x {n b : Nat} (h : b < 2 ^ n) : al n ^^^ b < 2 ^ n := Nat.xor_lt_two_pow (by unfold al; have := Nat.two_pow_pos n; omega) h
theorem al_xx {n b : Nat} : al n ^^^ (al n ^^^ b) = b := by rw [← Nat.xor_assoc, Nat.xor_self, Nat.zero_xor]
def dua (n : Nat) (V : Nat → Int32) (k : Nat) : Int32 := if k < 2 ^ n then V (al n ^^^ k) else V k
theorem c_49 {I : ai_I} {t v n r : Nat} {L : ai_G} {V : Nat → Int32} (hv : v ∈ VC) (hv4 : v < 40) (hW : WF n r V) (h : CS I v n r V) : wp (m_38 49 v I (Rc t) (Gc L)) (fun q => q.1 = nI 1 ∧ MC I q.2 n (n - r) (dua n V)) := by
  have b1 := hW.1
  have b2 := hW.2.1
  have b3 := hW.2.2.1
  have b4 := hW.2.2.2.1
  have h8 := p2_le b2
  have hl := BL_len hW
  unfold m_38
  rw [v_kd hv, o_g_t, h.1, h.2.1, i_sub (by omega)]
  refine wp_b2 (wp_mono (c_41 (t := t) (L := L) (I := I) (nI n) (nI (n - r))) ?_)
  rintro q (⟨-, -, q3⟩ | ⟨q1, a, b, a1, a2, a3, a4, a5, a6, q2⟩)
  · exact absurd ⟨⟨nI_le b1 (by omega), nI_le b2 (by decide)⟩, nI_le (by omega) (by omega), by rw [i_sub (by omega)]; exact nI_le (by omega) (by omega)⟩ q3
  · rw [i_eq (by omega) (by omega)] at a5 a6
    subst a5 a6
    rw [q1, q_10]
    refine wp_s1 (wp_lpB V (fun p (J : ai_I) => (nI p, J)) (fun k J => MC I J n (n - r) (fun j => if j < 2 ^ n ∧ al n ^^^ j < k then V (al n ^^^ j) else NO)) (x0 := q.2) hl (MC_cong q2 (fun k _ => (if_neg (fun h => absurd h.2 (Nat.not_lt_zero _))).symm)) ?_ ?_ ?_)
    · intro k J hk hV hM
      refine MC_cong hM (fun j _ => ?_)
      by_cases c : j < 2 ^ n ∧ al n ^^^ j < k
      · rw [if_pos c, if_pos ⟨c.1, by omega⟩]
      · rw [if_neg c]
        by_cases c2 : j < 2 ^ n ∧ al n ^^^ j < k + 1
        · rw [if_pos c2, show al n ^^^ j = k by omega, hV]
        · rw [if_neg c2]
    · intro p J hp hM
      have hb := BL_at hp
      have hbn := (hW.2.2.2.2.1 _ hb.1 hb.2).1
      have hx := al_x hbn
      unfold m_38_b24
      dsimp only
      generalize hbb : (BL V).getD p 0 = bb at hb hbn hx hM ⊢
      rw [if_neg (show ¬ J v 2 ≤ nI p by rw [hM.1 v (by omega) (by omega), h.2.2.1]; exact nI_ge hp (by omega)), v_rb hv, v_gb hv (by omega), o_g_t, i_cl (by omega), hM.1 (v + 3) (by omega) (by omega), h.2.2.2.2.2 p hp, hbb, o_b1_s, c_119 b2 (by rw [hM.1 v (by omega) (by omega)]; exact h.1), o_b1_s, v_rv hv, v_gv hv hb.1, o_g_t, r_49_0, k_50, o_g_t, i_xor, i_cl (by omega), hM.1 (v + 1) (by omega) (by omega), h.2.2.2.1 _ hb.1]
      refine wp_b1 (wp_mono (c_113 (t := t) (L := L) (k := al n ^^^ bb) (x := V bb) hM (by omega)) ?_)
      intro K hK
      rw [i_add, o_b1_s, wp_s, lq_l]
      refine ⟨K, rfl, MC_cong hK (fun j hj => ?_)⟩
      by_cases c : j = al n ^^^ bb
      · subst c
        rw [up_eq, al_xx, if_neg (by omega), if_pos ⟨hx, by omega⟩, mx_no]
      · rw [up_ne c]
        have hne : ¬ al n ^^^ j = bb := fun e => c (by rw [← e, al_xx])
        by_cases c2 : j < 2 ^ n ∧ al n ^^^ j < bb
        · rw [if_pos c2, if_pos ⟨c2.1, by omega⟩]
        · rw [if_neg c2, if_neg (by omega)]
    · intro J hM
      unfold m_38_b24
      dsimp only
      rw [if_pos (show J v 2 ≤ nI (BL V).length by rw [hM.1 v (by omega) (by omega), h.2.2.1]; exact Int32.le_refl _), wp_s, lq_r]
      refine ⟨(nI 1, J), rfl, rfl, MC_cong hM (fun j hj => ?_)⟩
      unfold dua
      by_cases c : j < 2 ^ n
      · have := al_x c
        rw [if_pos c, if_pos ⟨c, by omega⟩]
      · rw [if_neg c, if_neg (fun h => c h.1)]
        exact (Decidable.byContradiction (fun h2 => c (hW.2.2.2.2.1 j hj h2).1) : V j = NO).symm
