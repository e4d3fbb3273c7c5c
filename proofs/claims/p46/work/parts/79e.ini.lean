/-! Out of whole's part 79e.ini, by wip/p46/extract.py. -/
def ini (V g : Nat → Int32) (k : Nat) : Int32 := if V k ≠ NO ∧ g k = gs g (BL V) then nI 0 else NO
theorem c_56 {I : ai_I} {t v n r : Nat} {L : ai_G} {V : Nat → Int32} (hv : v ∈ VC) (hv4 : v < 40) (hW : WF n r V) (h : CS I v n r V) : wp (m_45 49 v 4 I (Rc t) (Gc L)) (fun q => q.1 = nI 1 ∧ MC I q.2 n r (ini V (fun x => V x + prs (I 4) x))) := by
  have b1 := hW.1
  have b2 := hW.2.1
  have b3 := hW.2.2.1
  have b4 := hW.2.2.2.1
  have hl := BL_len hW
  unfold m_45
  rw [v_kd hv, o_g_t, h.1, h.2.1]
  refine wp_b2 (wp_mono (c_41 (t := t) (L := L) (I := I) (nI n) (nI r)) ?_)
  rintro q (⟨-, -, q3⟩ | ⟨q1, a, b, a1, a2, a3, a4, a5, a6, q2⟩)
  · exact absurd ⟨⟨nI_le b1 (by omega), nI_le b2 (by decide)⟩, nI_le (by omega) (by omega), by rw [i_sub (by omega)]; exact nI_le (by omega) (by omega)⟩ q3
  · rw [i_eq (by omega) (by omega)] at a5 a6
    subst a5 a6
    rw [q1, q_10]
    have hC : ∀ J : ai_I, (∀ c, ¬ c = 50 → ¬ c = 51 → J c = I c) → CS J v n r V := fun J hJ => CS_cong (fun _ _ => rfl) (hJ _ (by omega) (by omega)) (hJ _ (by omega) (by omega)) (hJ _ (by omega) (by omega)) (hJ _ (by omega) (by omega)) h
    have hCq := hC q.2 q2.1
    have e4 : q.2 4 = I 4 := q2.1 4 (by decide) (by decide)
    refine wp_s1 (wp_lpB V (fun p (x : Int32) => (x, nI p)) (fun k x => x = gs (fun x => V x + prs (I 4) x) ((List.range k).filter (fun x => decide (V x ≠ NO)))) (x0 := NO) hl rfl ?_ ?_ ?_)
    · rintro k x hk hV rfl
      rw [BLk k, if_pos hV]
    · rintro p x hp rfl
      have hb := BL_at hp
      unfold m_45_b23
      dsimp only
      generalize hbb : (BL V).getD p 0 = bb at hb ⊢
      rw [if_neg (show ¬ q.2 v 2 ≤ nI p by rw [hCq.2.2.1]; exact nI_ge hp (by omega)), v_rb hv, v_gb hv (by omega), o_g_t, i_cl (by omega), hCq.2.2.2.2.2 p hp, hbb, c_103 hv hCq rfl rfl hb.1, o_b1_s, mx_lt, o_b1_s, i_add, o_b1_s, wp_s, lq_l]
      refine ⟨_, rfl, ?_⟩
      rw [BLk bb, if_neg hb.2, e4]
      unfold gs
      rw [fd_append]
      rfl
    · rintro x rfl
      unfold m_45_b23
      dsimp only
      rw [if_pos (show q.2 v 2 ≤ nI (BL V).length by rw [hCq.2.2.1]; exact Int32.le_refl _), wp_s, lq_r]
      unfold m_45_x23_55
      have eB : (List.range 256).filter (fun x => decide (V x ≠ NO)) = BL V := rfl
      rw [eB]
      refine wp_s1 (wp_lpB V (fun p (J : ai_I) => (nI p, J)) (fun k J => MC I J n r (fun j => if j < k then ini V (fun x => V x + prs (I 4) x) j else NO)) (x0 := q.2) hl (MC_cong q2 (fun k _ => (if_neg (Nat.not_lt_zero _)).symm)) ?_ ?_ ?_)
      · intro k J hk hV hM
        refine MC_cong hM (fun j hj => ?_)
        by_cases e : j = k
        · rw [e, if_neg (Nat.lt_irrefl _), if_pos (by omega)]
          exact (if_neg (fun h => h.1 hV)).symm
        · by_cases e2 : j < k
          · rw [if_pos e2, if_pos (by omega)]
          · rw [if_neg e2, if_neg (by omega)]
      · intro p J hp hM
        have hb := BL_at hp
        have hCJ := hC J hM.1
        unfold m_45_b58
        dsimp only
        generalize hbb : (BL V).getD p 0 = bb at hb hM ⊢
        rw [if_neg (show ¬ J v 2 ≤ nI p by rw [hCJ.2.2.1]; exact nI_ge hp (by omega)), v_rb hv, v_gb hv (by omega), o_g_t, i_cl (by omega), hCJ.2.2.2.2.2 p hp, hbb, c_103 hv hCJ rfl rfl hb.1, o_b1_s, hM.1 4 (by decide) (by decide)]
        by_cases c : V bb + prs (I 4) bb = gs (fun x => V x + prs (I 4) x) (BL V)
        · rw [if_pos c, o_g_t, r_49_0, k_50, o_g_t]
          refine wp_b1 (wp_mono (c_113 (t := t) (L := L) (k := bb) (x := nI 0) hM hb.1) ?_)
          intro K hK
          rw [i_add, o_b1_s, wp_s, lq_l]
          refine ⟨K, rfl, MC_cong hK (fun j hj => ?_)⟩
          by_cases e : j = bb
          · rw [e, up_eq, if_neg (Nat.lt_irrefl _), mx_no, if_pos (by omega)]
            exact (if_pos ⟨hb.2, c⟩).symm
          · rw [up_ne e]
            by_cases e2 : j < bb
            · rw [if_pos e2, if_pos (by omega)]
            · rw [if_neg e2, if_neg (by omega)]
        · rw [if_neg c, i_add, o_b1_s, wp_s, lq_l]
          refine ⟨J, rfl, MC_cong hM (fun j hj => ?_)⟩
          by_cases e : j = bb
          · rw [e, if_neg (Nat.lt_irrefl _), if_pos (by omega)]
            exact (if_neg (fun h => c h.2)).symm
          · by_cases e2 : j < bb
            · rw [if_pos e2, if_pos (by omega)]
            · rw [if_neg e2, if_neg (by omega)]
      · intro J hM
        have hCJ := hC J hM.1
        unfold m_45_b58
        dsimp only
        rw [if_pos (show J v 2 ≤ nI (BL V).length by rw [hCJ.2.2.1]; exact Int32.le_refl _), wp_s, lq_r]
        exact ⟨(nI 1, J), rfl, rfl, MC_cong hM (fun j hj => if_pos hj)⟩
