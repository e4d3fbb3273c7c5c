/-! Out of whole's part 79g.plus, by wip/p46/extract.py. -/
def pdr (V W : Nat → Int32) (n k : Nat) : Nat → Int32 := pou V W (fun a b => a ||| b * 2 ^ n) (fun a b => V a + W b) (fun _ _ => True) k
theorem sh_or {n a b : Nat} (h : a < 2 ^ n) : a ||| b * 2 ^ n = a + b * 2 ^ n := by
  have h2 := Nat.two_pow_add_eq_or_of_lt h b
  rw [Nat.or_comm, Nat.mul_comm b, ← h2, Nat.add_comm]
theorem sh_lt {n m a b : Nat} (h : a < 2 ^ n) (h2 : b < 2 ^ m) (h3 : n + m ≤ 8) : a ||| b * 2 ^ n < 256 := by
  rw [sh_or h]
  have h4 : (b + 1) * 2 ^ n ≤ 2 ^ m * 2 ^ n := Nat.mul_le_mul_right _ h2
  rw [← Nat.pow_add, Nat.add_mul, Nat.one_mul, Nat.add_comm m n] at h4
  have h5 : 2 ^ (n + m) ≤ 2 ^ 8 := Nat.pow_le_pow_right (by decide) h3
  omega
theorem c_52l {I J0 : ai_I} {t v w n r n2 r2 x y : Nat} {L : ai_G} {V W : Nat → Int32} (hv : v ∈ VC) (hv4 : v < 40) (hV : WF n r V) (h : CS I v n r V) (hw : w ∈ VC) (hw4 : w < 40) (hW : WF n2 r2 W) (h2 : CS I w n2 r2 W) (hs : n + n2 ≤ 8) (h0 : MC I J0 x y (fun _ => NO)) : wp (o_s1 (lp (fun s => m_41_b33 49 v w (Rc t) (Gc L) s.1 s.2) o_N ((nI 0), J0)) (fun t => m_41_x33_114 t)) (fun q => q.1 = nI 1 ∧ MC I q.2 x y (pdr V W n 256)) := by
  have hl := BL_len hV
  have hl2 := BL_len hW
  refine wp_s1 (wp_lpB V (fun p (J : ai_I) => (nI p, J)) (fun k J => MC I J x y (pdr V W n k)) (x0 := J0) hl h0 ?_ ?_ ?_)
  · intro k J hk hVk hM
    unfold pdr
    rw [pou_f hVk]
    exact hM
  · intro p J hp hM
    have hb := BL_at hp
    unfold m_41_b33
    dsimp only
    generalize hbb : (BL V).getD p 0 = bb at hb hM ⊢
    have hbn := (hV.2.2.2.2.1 bb hb.1 hb.2).1
    rw [if_neg (show ¬ J v 2 ≤ nI p by rw [hM.1 v (by omega) (by omega), h.2.2.1]; exact nI_ge hp (by omega))]
    refine wp_s1 (wp_lpB W (fun q (K : ai_I) => (nI q, K)) (fun l K => MC I K x y (pin W (fun a b => a ||| b * 2 ^ n) (fun a b => V a + W b) (fun _ _ => True) bb (pdr V W n bb) l)) (x0 := J) hl2 hM ?_ ?_ ?_)
    · intro l K hl3 hWl hK
      rw [pin_f (by exact fun h => h.1 hWl)]
      exact hK
    · intro q K hq hK
      have hc := BL_at hq
      unfold m_41_b44
      dsimp only
      generalize hcc : (BL W).getD q 0 = cc at hc hK ⊢
      have hcn := (hW.2.2.2.2.1 cc hc.1 hc.2).1
      rw [if_neg (show ¬ K w 2 ≤ nI q by rw [hK.1 w (by omega) (by omega), h2.2.2.1]; exact nI_ge hq (by omega)), v_rb hv, v_gb hv (by omega), o_g_t, i_cl (by omega), hK.1 (v + 3) (by omega) (by omega), h.2.2.2.2.2 p hp, hbb, o_b1_s, v_rb hw, v_gb hw (by omega), o_g_t, i_cl (by omega), hK.1 (w + 3) (by omega) (by omega), h2.2.2.2.2.2 q hq, hcc, o_b1_s, v_rv hv, v_gv hv hb.1, o_g_t, v_rv hw, v_gv hw hc.1, o_g_t, r_49_0, k_50, o_g_t, hK.1 v (by omega) (by omega), h.1, i_shl hc.1 (by omega), i_or, i_cl (by omega), i_cl (by omega), hK.1 (v + 1) (by omega) (by omega), hK.1 (w + 1) (by omega) (by omega), h.2.2.2.1 _ hb.1, h2.2.2.2.1 _ hc.1]
      refine wp_b1 (wp_mono (c_113 (t := t) (L := L) (k := bb ||| cc * 2 ^ n) (x := V bb + W cc) hK (sh_lt hbn hcn hs)) ?_)
      intro N hN
      rw [i_add, o_b1_s, wp_s, lq_l]
      refine ⟨N, rfl, ?_⟩
      rw [pin_t ⟨hc.2, trivial⟩]
      exact hN
    · intro K hK
      unfold m_41_b44
      dsimp only
      rw [if_pos (show K w 2 ≤ nI (BL W).length by rw [hK.1 w (by omega) (by omega), h2.2.2.1]; exact Int32.le_refl _), wp_s, lq_r]
      unfold m_41_x44_108
      rw [i_add, o_b1_s, wp_s, lq_l]
      refine ⟨K, rfl, ?_⟩
      unfold pdr
      rw [pou_t hb.2]
      exact hK
  · intro J hM
    unfold m_41_b33
    dsimp only
    rw [if_pos (show J v 2 ≤ nI (BL V).length by rw [hM.1 v (by omega) (by omega), h.2.2.1]; exact Int32.le_refl _), wp_s, lq_r]
    exact ⟨(nI 1, J), rfl, rfl, hM⟩
