/-! Out of whole's part 79b.shift, by wip/p46/extract.py. -/
def od (V : Nat → Int32) (φ : Nat → Nat) (g : Nat → Int32) : Nat → Nat → Int32
  | 0 => fun _ => NO
  | k + 1 => if V k = NO then od V φ g k else va_up (od V φ g k) (φ k) (mx (od V φ g k (φ k)) (g k))
theorem od_f {V : Nat → Int32} {φ : Nat → Nat} {g : Nat → Int32} {k : Nat} (h : V k = NO) : od V φ g (k + 1) = od V φ g k := if_pos h
theorem od_t {V : Nat → Int32} {φ : Nat → Nat} {g : Nat → Int32} {k : Nat} (h : ¬ V k = NO) : od V φ g (k + 1) = va_up (od V φ g k) (φ k) (mx (od V φ g k (φ k)) (g k)) := if_neg h
theorem od_inj {V : Nat → Int32} {φ : Nat → Nat} {g : Nat → Int32} {N : Nat} (h : ∀ a b, a < N → b < N → V a ≠ NO → V b ≠ NO → φ a = φ b → a = b) : ∀ k, k ≤ N → ∀ j, (∀ b, b < k → V b ≠ NO → φ b = j → od V φ g k j = g b) ∧ ((∀ b, b < k → V b ≠ NO → ¬ φ b = j) → od V φ g k j = NO)
  | 0, _, j => ⟨fun b hb => absurd hb (Nat.not_lt_zero _), fun _ => rfl⟩
  | k + 1, hk, j => by
    have ih := od_inj (g := g) h k (by omega)
    by_cases c : V k = NO
    · rw [od_f c]
      refine ⟨fun b hb hV e => ?_, fun hn => (ih j).2 (fun b hb => hn b (by omega))⟩
      by_cases e2 : b = k
      · exact absurd c (e2 ▸ hV)
      · exact (ih j).1 b (by omega) hV e
    · rw [od_t c]
      have hno : od V φ g k (φ k) = NO := (ih (φ k)).2 (fun b hb hV e => by
        have := h b k (by omega) (by omega) hV c e
        omega)
      rw [hno, mx_no]
      refine ⟨fun b hb hV e => ?_, fun hn => ?_⟩
      · by_cases e2 : b = k
        · rw [← e, e2, up_eq]
        · rw [up_ne (fun e3 => e2 (h b k (by omega) (by omega) hV c (e.trans e3)))]
          exact (ih j).1 b (by omega) hV e
      · rw [up_ne (fun e3 => hn k (by omega) c e3.symm)]
        exact (ih j).2 (fun b hb => hn b (by omega))
def shi (V p : Nat → Int32) (k : Nat) : Int32 := if V k = NO then NO else V k + prs p k
theorem c_51 {I : ai_I} {t v n r : Nat} {L : ai_G} {V : Nat → Int32} (hv : v ∈ VC) (hv4 : v < 40) (hW : WF n r V) (h : CS I v n r V) : wp (m_40 49 v 4 I (Rc t) (Gc L)) (fun q => q.1 = nI 1 ∧ MC I q.2 n r (shi V (I 4))) := by
  have b1 := hW.1
  have b2 := hW.2.1
  have b3 := hW.2.2.1
  have b4 := hW.2.2.2.1
  have hl := BL_len hW
  unfold m_40
  rw [v_kd hv, o_g_t, h.1, h.2.1]
  refine wp_b2 (wp_mono (c_41 (t := t) (L := L) (I := I) (nI n) (nI r)) ?_)
  rintro q (⟨-, -, q3⟩ | ⟨q1, a, b, a1, a2, a3, a4, a5, a6, q2⟩)
  · exact absurd ⟨⟨nI_le b1 (by omega), nI_le b2 (by decide)⟩, nI_le (by omega) (by omega), by rw [i_sub (by omega)]; exact nI_le (by omega) (by omega)⟩ q3
  · rw [i_eq (by omega) (by omega)] at a5 a6
    subst a5 a6
    rw [q1, q_10]
    refine wp_s1 (wp_lpB V (fun p (J : ai_I) => (nI p, J)) (fun k J => MC I J n r (od V (fun b => b) (fun b => V b + prs (I 4) b) k)) (x0 := q.2) hl q2 ?_ ?_ ?_)
    · intro k J hk hV hM
      rw [od_f hV]
      exact hM
    · intro p J hp hM
      have hb := BL_at hp
      unfold m_40_b19
      dsimp only
      generalize hbb : (BL V).getD p 0 = bb at hb hM ⊢
      rw [if_neg (show ¬ J v 2 ≤ nI p by rw [hM.1 v (by omega) (by omega), h.2.2.1]; exact nI_ge hp (by omega)), v_rb hv, v_gb hv (by omega), o_g_t, i_cl (by omega), hM.1 (v + 3) (by omega) (by omega), h.2.2.2.2.2 p hp, hbb, o_b1_s, v_rv hv, v_gv hv hb.1, o_g_t, c_102 rfl rfl hb.1, o_b1_s, r_49_0, k_50, o_g_t, i_cl (by omega), hM.1 (v + 1) (by omega) (by omega), h.2.2.2.1 _ hb.1, hM.1 4 (by decide) (by decide)]
      refine wp_b1 (wp_mono (c_113 (t := t) (L := L) (k := bb) (x := V bb + prs (I 4) bb) hM hb.1) ?_)
      intro K hK
      rw [i_add, o_b1_s, wp_s, lq_l]
      refine ⟨K, rfl, ?_⟩
      rw [od_t hb.2]
      exact hK
    · intro J hM
      unfold m_40_b19
      dsimp only
      rw [if_pos (show J v 2 ≤ nI (BL V).length by rw [hM.1 v (by omega) (by omega), h.2.2.1]; exact Int32.le_refl _), wp_s, lq_r]
      refine ⟨(nI 1, J), rfl, rfl, MC_cong hM (fun j hj => ?_)⟩
      have ho := od_inj (V := V) (φ := fun b => b) (g := fun b => V b + prs (I 4) b) (N := 256) (fun a b _ _ _ _ e => e) 256 (Nat.le_refl _) j
      unfold shi
      by_cases c : V j = NO
      · rw [if_pos c]
        exact ho.2 (fun b hb hV e => hV (by rw [show b = j from e]; exact c))
      · rw [if_neg c]
        exact ho.1 j hj c rfl
