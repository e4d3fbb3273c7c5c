/-! Out of whole's part 79f.join, by wip/p46/extract.py. -/
def pin (W : Nat → Int32) (op : Nat → Nat → Nat) (val : Nat → Nat → Int32) (cond : Nat → Nat → Prop) [∀ a b, Decidable (cond a b)] (k : Nat) (D : Nat → Int32) : Nat → Nat → Int32
  | 0 => D
  | l + 1 => if W l ≠ NO ∧ cond k l then va_up (pin W op val cond k D l) (op k l) (mx (pin W op val cond k D l (op k l)) (val k l)) else pin W op val cond k D l
section
variable {V W : Nat → Int32} {op : Nat → Nat → Nat} {val : Nat → Nat → Int32} {cond : Nat → Nat → Prop} {k l : Nat} {D : Nat → Int32}
theorem pin_t [∀ a b, Decidable (cond a b)] (h : W l ≠ NO ∧ cond k l) : pin W op val cond k D (l + 1) = va_up (pin W op val cond k D l) (op k l) (mx (pin W op val cond k D l (op k l)) (val k l)) := if_pos h
theorem pin_f [∀ a b, Decidable (cond a b)] (h : ¬ (W l ≠ NO ∧ cond k l)) : pin W op val cond k D (l + 1) = pin W op val cond k D l := if_neg h
end
def pou (V W : Nat → Int32) (op : Nat → Nat → Nat) (val : Nat → Nat → Int32) (cond : Nat → Nat → Prop) [∀ a b, Decidable (cond a b)] : Nat → Nat → Int32
  | 0 => fun _ => NO
  | k + 1 => if V k = NO then pou V W op val cond k else pin W op val cond k (pou V W op val cond k) 256
section
variable {V W : Nat → Int32} {op : Nat → Nat → Nat} {val : Nat → Nat → Int32} {cond : Nat → Nat → Prop} {k : Nat}
theorem pou_f [∀ a b, Decidable (cond a b)] (h : V k = NO) : pou V W op val cond (k + 1) = pou V W op val cond k := if_pos h
theorem pou_t [∀ a b, Decidable (cond a b)] (h : ¬ V k = NO) : pou V W op val cond (k + 1) = pin W op val cond k (pou V W op val cond k) 256 := if_neg h
end
def jdr (V W : Nat → Int32) (k : Nat) : Nat → Int32 := pou V W (fun a b => a ||| b) (fun a b => V a + W b) (fun a b => a &&& b = 0) k
theorem c_57l {I J0 : ai_I} {t v w n r n2 r2 x y : Nat} {L : ai_G} {V W : Nat → Int32} (hv : v ∈ VC) (hv4 : v < 40) (hV : WF n r V) (h : CS I v n r V) (hw : w ∈ VC) (hw4 : w < 40) (hW : WF n2 r2 W) (h2 : CS I w n2 r2 W) (h0 : MC I J0 x y (fun _ => NO)) : wp (o_s1 (lp (fun s => m_46_b32 49 v w (Rc t) (Gc L) s.1 s.2) o_N ((nI 0), J0)) (fun t => m_46_x32_116 t)) (fun q => q.1 = nI 1 ∧ MC I q.2 x y (jdr V W 256)) := by
  have hl := BL_len hV
  have hl2 := BL_len hW
  refine wp_s1 (wp_lpB V (fun p (J : ai_I) => (nI p, J)) (fun k J => MC I J x y (jdr V W k)) (x0 := J0) hl h0 ?_ ?_ ?_)
  · intro k J hk hVk hM
    unfold jdr
    rw [pou_f hVk]
    exact hM
  · intro p J hp hM
    have hb := BL_at hp
    unfold m_46_b32
    dsimp only
    generalize hbb : (BL V).getD p 0 = bb at hb hM ⊢
    rw [if_neg (show ¬ J v 2 ≤ nI p by rw [hM.1 v (by omega) (by omega), h.2.2.1]; exact nI_ge hp (by omega))]
    refine wp_s1 (wp_lpB W (fun q (K : ai_I) => (nI q, K)) (fun l K => MC I K x y (pin W (fun a b => a ||| b) (fun a b => V a + W b) (fun a b => a &&& b = 0) bb (jdr V W bb) l)) (x0 := J) hl2 hM ?_ ?_ ?_)
    · intro l K hl3 hWl hK
      rw [pin_f (fun h => h.1 hWl)]
      exact hK
    · intro q K hq hK
      have hc := BL_at hq
      unfold m_46_b43
      dsimp only
      generalize hcc : (BL W).getD q 0 = cc at hc hK ⊢
      rw [if_neg (show ¬ K w 2 ≤ nI q by rw [hK.1 w (by omega) (by omega), h2.2.2.1]; exact nI_ge hq (by omega)), v_rb hv, v_gb hv (by omega), o_g_t, i_cl (by omega), hK.1 (v + 3) (by omega) (by omega), h.2.2.2.2.2 p hp, hbb, o_b1_s, v_rb hw, v_gb hw (by omega), o_g_t, i_cl (by omega), hK.1 (w + 3) (by omega) (by omega), h2.2.2.2.2.2 q hq, hcc, o_b1_s, i_and, q_e0 (Nat.lt_of_le_of_lt Nat.and_le_left (by omega))]
      by_cases c : bb &&& cc = 0
      · rw [if_pos c, v_rv hv, v_gv hv hb.1, o_g_t, v_rv hw, v_gv hw hc.1, o_g_t, r_49_0, k_50, o_g_t, i_or, i_cl (by omega), i_cl (by omega), hK.1 (v + 1) (by omega) (by omega), hK.1 (w + 1) (by omega) (by omega), h.2.2.2.1 _ hb.1, h2.2.2.2.1 _ hc.1]
        refine wp_b1 (wp_mono (c_113 (t := t) (L := L) (k := bb ||| cc) (x := V bb + W cc) hK (bit_or_lt hb.1 hc.1)) ?_)
        intro N hN
        rw [i_add, o_b1_s, wp_s, lq_l]
        refine ⟨N, rfl, ?_⟩
        rw [pin_t ⟨hc.2, c⟩]
        exact hN
      · rw [if_neg c, i_add, o_b1_s, wp_s, lq_l]
        refine ⟨K, rfl, ?_⟩
        rw [pin_f (by exact fun h => c h.2)]
        exact hK
    · intro K hK
      unfold m_46_b43
      dsimp only
      rw [if_pos (show K w 2 ≤ nI (BL W).length by rw [hK.1 w (by omega) (by omega), h2.2.2.1]; exact Int32.le_refl _), wp_s, lq_r]
      unfold m_46_x43_110
      rw [i_add, o_b1_s, wp_s, lq_l]
      refine ⟨K, rfl, ?_⟩
      unfold jdr
      rw [pou_t hb.2]
      exact hK
  · intro J hM
    unfold m_46_b32
    dsimp only
    rw [if_pos (show J v 2 ≤ nI (BL V).length by rw [hM.1 v (by omega) (by omega), h.2.2.1]; exact Int32.le_refl _), wp_s, lq_r]
    exact ⟨(nI 1, J), rfl, rfl, hM⟩
