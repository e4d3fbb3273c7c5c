/-! What the class answers: value, base, exchange, fault, shelf. -/
section
variable {I : ai_I} {t s : Nat} {L : ai_G} {A : SV}
theorem k_value {k : Nat} (h : KA I A) (hs : s < 4) (hk : k < 256) : m_101 1 (nI s) (nI k) I (Rc t) (Gc L) = some (A.2.2.1 s k) := by
  obtain ⟨hW, hC⟩ := KA_s h hs
  have hv := vc_s hs
  unfold m_101
  rw [r_1_0, k_2, o_g_t, c_96 hs, o_b1_s, if_neg (by omega), v_kd hv, o_g_t, c_122 hv hW hC hk, o_b1_s, q_bz]
  by_cases hV : A.2.2.1 s k ≠ NO
  · rw [if_pos hV, v_rv hv, v_gv hv hk, o_g_t, i_cl (by omega), hC.2.2.2.1 k hk]
  · rw [if_neg hV, Decidable.of_not_not hV]
theorem k_value_o {x : Int32} (h : KA I A) (hs : s < 4) (hx : ¬ (nI 0 ≤ x ∧ x ≤ nI 255)) : m_101 1 (nI s) x I (Rc t) (Gc L) = some NO := by
  obtain ⟨hW, hC⟩ := KA_s h hs
  have hv := vc_s hs
  unfold m_101
  rw [r_1_0, k_2, o_g_t, c_96 hs, o_b1_s, if_neg (by omega), v_kd hv, o_g_t, c_122o hW hC hx, o_b1_s, q_00]
theorem k_value_s {x : Int32} : m_101 1 (nI 4) x I (Rc t) (Gc L) = some NO := by
  unfold m_101
  rw [r_1_0, k_2, o_g_t, c_96o (by decide), o_b1_s, if_pos rfl]
theorem k_base {j : Nat} (h : KA I A) (hs : s < 4) (hj : j < 2147483648) : m_102 1 (nI s) (nI j) I (Rc t) (Gc L) = some (nthE (BL (A.2.2.1 s)) j) := by
  obtain ⟨hW, hC⟩ := KA_s h hs
  have hv := vc_s hs
  have hl := BL_len hW
  unfold m_102
  rw [r_1_0, k_2, o_g_t, c_96 hs, o_b1_s, if_neg (by omega), q_p0 hj, v_kd hv, o_g_t, hC.2.2.1, q_le (by omega) hj]
  unfold nthE
  by_cases hjl : (BL (A.2.2.1 s)).length ≤ j
  · rw [if_pos hjl, List.getElem?_eq_none hjl]
  · rw [if_neg hjl, v_rb hv, v_gb hv (by omega), o_g_t, i_cl hj, hC.2.2.2.2.2 j (by omega), List.getD_eq_getElem?_getD, List.getElem?_eq_getElem (by omega)]
    rfl
theorem k_base_n {x : Int32} (hs : s < 4) (hx : x < 0) : m_102 1 (nI s) x I (Rc t) (Gc L) = some (-1) := by
  unfold m_102
  rw [r_1_0, k_2, o_g_t, c_96 hs, o_b1_s, if_neg (by omega), if_neg (Int32.not_le.2 hx)]
theorem k_exchange {a b i : Nat} (h : KA I A) (hs : s < 4) (ha : a < 256) (hb : b < 256) (hVa : A.2.2.1 s a ≠ NO) (hVb : A.2.2.1 s b ≠ NO) (c1 : a.testBit i = true) (c2 : b.testBit i = false) : m_104 1 (nI s) (nI a) (nI b) (nI i) I (Rc t) (Gc L) = some (fndE ((List.range 8).find? (good (A.2.2.1 s) a b i))) := by
  obtain ⟨hW, hC⟩ := KA_s h hs
  have hv := vc_s hs
  have hn := hW.2.1
  have hn2 := hW.1
  have hlt := (hW.2.2.2.2.1 a ha hVa).1
  have hi : i < A.1 s := by
    apply Nat.lt_of_not_le
    intro h1
    rw [tb_hi hlt h1] at c1
    cases c1
  have hin : nI 0 ≤ nI i ∧ nI i ≤ nI (A.1 s - 1) := ⟨nI_le (by omega) (by omega), nI_le (by omega) (by omega)⟩
  unfold m_104
  rw [r_1_0, k_2, o_g_t, c_96 hs, o_b1_s, if_neg (by omega), v_kd hv, o_g_t, c_122 hv hW hC ha, o_b1_s, q_bz, if_pos hVa, c_122 hv hW hC hb, o_b1_s, q_bz, if_pos hVb, c_120' hn (by omega) hC.1, o_b1_s, q_bz, if_pos hin, i_sd, c_183 (sd_lt ha) (by omega), o_b1_s, q_bz, sd_bit, if_pos (by simp [c1, c2]), v_rv hv, c_34 (c := 6 + 4 * s + 1) (v_kd2 hs).1 (v_kd2 hs).2 ha hb (by omega)]
  have e : (List.range 8).find? (good (I (6 + 4 * s + 1)) a b i) = (List.range 8).find? (good (A.2.2.1 s) a b i) := good_cong (fun j hj => hC.2.2.2.1 j hj) ha hb (by omega)
  rw [e, o_b1_s]
theorem k_exchange_0 {y z : Int32} (h : KA I A) (hs : s < 4) : m_104 1 (nI s) (nI 0) y z I (Rc t) (Gc L) = some (-1) := by
  obtain ⟨hW, hC⟩ := KA_s h hs
  have hv := vc_s hs
  unfold m_104
  rw [r_1_0, k_2, o_g_t, c_96 hs, o_b1_s, if_neg (by omega), v_kd hv, o_g_t, c_122 hv hW hC (by decide), o_b1_s, q_bz, if_neg (fun h9 => h9 (k_b0 h hs))]
/-- behind a test of the law: what fault number w is -/
theorem k_meets {w : Nat} (h : KA I A) (hs : s < 4) (hw : w < 2147483648) : wp (m_21 55 (6 + 4 * s) (6 + 4 * s + 1) (nI w) I (Rc t) (Gc L)) (fun q => ot I q.2 55 ∧ ((∃ f, fnd (A.2.2.1 s) w f ∧ q.1 = nI (w + 1) ∧ q.2 55 0 = nI (f / 2048) ∧ q.2 55 1 = nI (f / 8 % 256) ∧ q.2 55 2 = nI (f % 8)) ∨ (q.1 = nI (fln (flt (A.2.2.1 s)) 524288) ∧ fln (flt (A.2.2.1 s)) 524288 ≤ w))) := by
  obtain ⟨hW, hC⟩ := KA_s h hs
  have hv := vc_s hs
  have e := hC.2.2.2.1
  refine wp_mono (c_32 (t := t) (L := L) (c := 6 + 4 * s + 1) (w := w) hv hW hC (v_kd2 hs).1 (v_kd2 hs).2 (by omega) (fun j hj hV => (e j hj).trans hV) hw) ?_
  rintro q ⟨q2, q3⟩
  refine ⟨q2, ?_⟩
  have e2 : fln (flt (I (6 + 4 * s + 1))) 524288 = fln (flt (A.2.2.1 s)) 524288 := fln_cong 524288 (fun c hc => flt_cong e hc)
  rw [e2] at q3
  rcases q3 with ⟨f, f1, f2⟩ | q3
  · exact Or.inl ⟨f, fnd_cong e f1, f2⟩
  · exact Or.inr q3
theorem SM_55 {J : ai_I} (h : ot I J 55) : SM I J := fun c hc => h c (by omega)
theorem k_fault {w u : Nat} (h : KA I A) (hs : s < 4) (hw : w < 2147483648) (hu : u ≤ 2) : wp (m_103 1 (nI s) (nI w) (nI u) I (Rc t) (Gc L)) (fun q => SM I q.2 ∧ ((∃ f, fnd (A.2.2.1 s) w f ∧ q.1 = (if u = 0 then nI (f / 2048) else if u = 1 then nI (f / 8 % 256) else nI (f % 8))) ∨ (q.1 = -4 ∧ fln (flt (A.2.2.1 s)) 524288 ≤ w))) := by
  have hv := vc_s hs
  unfold m_103
  rw [r_1_0, k_2, o_g_t, c_96 hs, o_b1_s, if_neg (by omega), q_n0 hw, q_n0 (by omega), q_leT (by decide) hu, v_kd hv, o_g_t, r_1_7, k_55, o_g_t, v_rv hv]
  refine wp_b2 (wp_mono (k_meets (t := t) (L := L) h hs hw) ?_)
  rintro ⟨x, J⟩ ⟨q2, q3⟩
  dsimp only at q2 q3 ⊢
  have hS := SM_55 q2
  have hu3 : u = 0 ∨ u = 1 ∨ u = 2 := by omega
  rcases q3 with ⟨f, f1, f2, f3, f4, f5⟩ | ⟨f1, f2⟩
  · have hww : w ≤ 524288 := by have := f1.2.2; have := f1.1; have := fln_le (flt (A.2.2.1 s)) f; omega
    rw [f2, if_pos (nI_lt (by omega) (by omega))]
    rcases hu3 with rfl | rfl | rfl
    · rw [if_pos (by decide), f3, wp_s]
      exact ⟨hS, Or.inl ⟨f, f1, by rw [if_pos rfl]⟩⟩
    · rw [if_neg (by decide), if_pos (by decide), f4, wp_s]
      exact ⟨hS, Or.inl ⟨f, f1, by rw [if_neg (by decide), if_pos rfl]⟩⟩
    · rw [if_neg (by decide), if_neg (by decide), f5, wp_s]
      exact ⟨hS, Or.inl ⟨f, f1, by rw [if_neg (by decide), if_neg (by decide)]⟩⟩
  · rw [f1, if_neg (nI_nlt f2 hw), wp_s]
    exact ⟨hS, Or.inr ⟨rfl, f2⟩⟩
theorem k_fault_n {x y : Int32} (hs : s < 4) (hx : x < 0) : m_103 1 (nI s) x y I (Rc t) (Gc L) = some (-1, I) := by
  unfold m_103
  rw [r_1_0, k_2, o_g_t, c_96 hs, o_b1_s, if_neg (by omega), if_pos hx]
theorem k_fault_3 (hs : s < 4) : m_103 1 (nI s) (nI 0) (nI 3) I (Rc t) (Gc L) = some (-1, I) := by
  unfold m_103
  rw [r_1_0, k_2, o_g_t, c_96 hs, o_b1_s, if_neg (by omega), if_neg (by decide), if_neg (by decide), if_neg (by decide)]
theorem k_sh0 (h : KA I A) (hs : s < 4) : m_100 1 (nI s) (nI 0) I (Rc t) (Gc L) = some (nI (A.1 s), I) := by
  obtain ⟨hW, hC⟩ := KA_s h hs
  unfold m_100
  rw [r_1_0, k_2, o_g_t, c_96 hs, o_b1_s, if_neg (by omega)]
  simp (disch := decide) only [if_pos, if_neg]
  rw [v_kd (vc_s hs), o_g_t, hC.1]
theorem k_sh1 (h : KA I A) (hs : s < 4) : m_100 1 (nI s) (nI 1) I (Rc t) (Gc L) = some (nI (A.2.1 s), I) := by
  obtain ⟨hW, hC⟩ := KA_s h hs
  unfold m_100
  rw [r_1_0, k_2, o_g_t, c_96 hs, o_b1_s, if_neg (by omega)]
  simp (disch := decide) only [if_pos, if_neg]
  rw [v_kd (vc_s hs), o_g_t, hC.2.1]
theorem k_sh2 (h : KA I A) (hs : s < 4) : m_100 1 (nI s) (nI 2) I (Rc t) (Gc L) = some (nI (BL (A.2.2.1 s)).length, I) := by
  obtain ⟨hW, hC⟩ := KA_s h hs
  unfold m_100
  rw [r_1_0, k_2, o_g_t, c_96 hs, o_b1_s, if_neg (by omega)]
  simp (disch := decide) only [if_pos, if_neg]
  rw [v_kd (vc_s hs), o_g_t, hC.2.2.1]
/-- the least of the greatest -/
def lgr (V : Nat → Int32) (b : Nat) : Prop := b ∈ BL V ∧ (∀ c ∈ BL V, V c ≤ V b) ∧ ∀ c ∈ BL V, c < b → V c < V b
theorem k_sh3 (h : KA I A) (hs : s < 4) : ∃ b, lgr (A.2.2.1 s) b ∧ m_100 1 (nI s) (nI 3) I (Rc t) (Gc L) = some (A.2.2.1 s b, I) := by
  obtain ⟨hW, hC⟩ := KA_s h hs
  have hv := vc_s hs
  obtain ⟨z, z1, b, b1, rfl, b2, b3⟩ := c_125 (t := t) (L := L) hv hW hC
  have hb := BL_mem.1 b1
  refine ⟨b, ⟨b1, b2, b3⟩, ?_⟩
  unfold m_100
  rw [r_1_0, k_2, o_g_t, c_96 hs, o_b1_s, if_neg (by omega)]
  simp (disch := decide) only [if_pos, if_neg]
  unfold m_91
  rw [v_kd hv, o_g_t, z1, o_b1_s, v_rv hv, v_gv hv hb.1, o_g_t, i_cl (by omega), hC.2.2.2.1 b hb.1, o_b1_s]
theorem k_sh4 (h : KA I A) (hs : s < 4) : ∃ b, lgr (A.2.2.1 s) b ∧ m_100 1 (nI s) (nI 4) I (Rc t) (Gc L) = some (nI b, I) := by
  obtain ⟨hW, hC⟩ := KA_s h hs
  have hv := vc_s hs
  obtain ⟨z, z1, b, b1, rfl, b2, b3⟩ := c_125 (t := t) (L := L) hv hW hC
  refine ⟨b, ⟨b1, b2, b3⟩, ?_⟩
  unfold m_100
  rw [r_1_0, k_2, o_g_t, c_96 hs, o_b1_s, if_neg (by omega)]
  simp (disch := decide) only [if_pos, if_neg]
  rw [v_kd hv, o_g_t, z1, o_b1_s]
theorem lgr_one {V : Nat → Int32} {a b : Nat} (h : lgr V a) (h2 : lgr V b) : a = b := by
  obtain ⟨a1, a2, a3⟩ := h
  obtain ⟨b1, b2, b3⟩ := h2
  by_cases c : a < b
  · exact absurd (b3 a a1 c) (Int32.not_lt.2 (a2 b b1))
  · by_cases d : b < a
    · exact absurd (a3 b b1 d) (Int32.not_lt.2 (b2 a a1))
    · omega
theorem k_sh5 (h : KA I A) (hs : s < 4) : m_100 1 (nI s) (nI 5) I (Rc t) (Gc L) = some (nI (lps (A.2.2.1 s) (A.1 s)), I) := by
  obtain ⟨hW, hC⟩ := KA_s h hs
  unfold m_100
  rw [r_1_0, k_2, o_g_t, c_96 hs, o_b1_s, if_neg (by omega)]
  simp (disch := decide) only [if_pos, if_neg]
  rw [c_66 (vc_s hs) hW hC, o_b1_s]
theorem k_sh6 (h : KA I A) (hs : s < 4) : m_100 1 (nI s) (nI 6) I (Rc t) (Gc L) = some (nI (brg (A.2.2.1 s) (A.1 s)), I) := by
  obtain ⟨hW, hC⟩ := KA_s h hs
  unfold m_100
  rw [r_1_0, k_2, o_g_t, c_96 hs, o_b1_s, if_neg (by omega)]
  simp (disch := decide) only [if_pos, if_neg]
  rw [c_67 (vc_s hs) hW hC, o_b1_s]
/-- 1 if there is no fault -/
def lw1 (T : Nat → Int32) : Int32 := bz (fln (flt T) 524288 = 0)
theorem lw1_of {T : Nat → Int32} {q : Int32} {P : Nat → Prop} (h : (∃ f, fnd T 0 f ∧ q = nI (0 + 1) ∧ P f) ∨ (q = nI (fln (flt T) 524288) ∧ fln (flt T) 524288 ≤ 0)) : (if q = 0 then nI 1 else nI 0) = lw1 T := by
  unfold lw1
  rcases h with ⟨f, f1, f2, -⟩ | ⟨f1, f2⟩
  · rw [f2, if_neg (by decide), bz_f (fun h9 => fnd_not f1 (by omega))]
  · rw [f1, show fln (flt T) 524288 = 0 by omega, if_pos (by decide), bz_t rfl]
theorem k_sh7 (h : KA I A) (hs : s < 4) : wp (m_100 1 (nI s) (nI 7) I (Rc t) (Gc L)) (fun q => SM I q.2 ∧ q.1 = lw1 (A.2.2.1 s)) := by
  have hv := vc_s hs
  unfold m_100
  rw [r_1_0, k_2, o_g_t, c_96 hs, o_b1_s, if_neg (by omega)]
  simp (disch := decide) only [if_pos, if_neg]
  rw [v_kd hv, o_g_t, r_1_7, k_55, o_g_t, v_rv hv]
  refine wp_b2 (wp_mono (k_meets (t := t) (L := L) h hs (by decide)) ?_)
  rintro ⟨x, J⟩ ⟨q2, q3⟩
  dsimp only at q2 q3 ⊢
  rw [← lw1_of q3]
  by_cases e : x = 0
  · rw [if_pos e, if_pos e]
    exact ⟨_, rfl, SM_55 q2, rfl⟩
  · rw [if_neg e, if_neg e]
    exact ⟨_, rfl, SM_55 q2, rfl⟩
theorem k_sh8 (h : KA I A) (hs : s < 4) : wp (m_100 1 (nI s) (nI 8) I (Rc t) (Gc L)) (fun q => SM I q.2 ∧ q.1 = lw1 (wrow (A.2.2.1 s) 1)) := by
  obtain ⟨hW, hC⟩ := KA_s h hs
  have hv := vc_s hs
  unfold m_100
  rw [r_1_0, k_2, o_g_t, c_96 hs, o_b1_s, if_neg (by omega)]
  simp (disch := decide) only [if_pos, if_neg]
  rw [r_1_7, k_55, o_g_t]
  refine wp_b2 (wp_mono (c_35 (t := t) (L := L) hv hW hC) ?_)
  rintro ⟨x, J⟩ ⟨p2, p3, p4⟩
  dsimp only at p2 p3 p4 ⊢
  subst p2
  have hC2 : CS J (6 + 4 * s) (A.1 s) (A.2.1 s) (A.2.2.1 s) := CS_cong (fun _ _ => rfl) (p3 _ (by omega)) (p3 _ (by omega)) (p3 _ (by omega)) (p3 _ (by omega)) hC
  refine wp_b2 (wp_mono (c_32 (t := t) (L := L) (c := 56) (w := 0) hv hW hC2 rfl rfl (by decide) (fun j hj hV => by rw [p4 j hj]; unfold wrow; rw [if_neg (fun h9 => h9 hV)]) (by decide)) ?_)
  rintro ⟨x, K⟩ ⟨q2, q3⟩
  dsimp only at q2 q3 ⊢
  have hS : SM I K := fun c hc => (q2 c (by omega)).trans (p3 c (by omega))
  have e2 : lw1 (J 56) = lw1 (wrow (A.2.2.1 s) 1) := by
    unfold lw1
    rw [fln_cong 524288 (fun c hc => flt_cong p4 hc)]
  rw [← e2, ← lw1_of q3]
  by_cases e : x = 0
  · rw [if_pos e, if_pos e]
    exact ⟨_, rfl, hS, rfl⟩
  · rw [if_neg e, if_neg e]
    exact ⟨_, rfl, hS, rfl⟩
theorem k_sh12 (h : KA I A) (hs : s < 4) : wp (m_100 1 (nI s) (nI 12) I (Rc t) (Gc L)) (fun q => SM I q.2 ∧ q.1 = nI (fln (flt (A.2.2.1 s)) 524288)) := by
  have hv := vc_s hs
  unfold m_100
  rw [r_1_0, k_2, o_g_t, c_96 hs, o_b1_s, if_neg (by omega)]
  simp (disch := decide) only [if_pos, if_neg]
  rw [v_kd hv, o_g_t, r_1_7, k_55, o_g_t, v_rv hv]
  refine wp_b2 (wp_mono (k_meets (t := t) (L := L) (w := 2147483647) h hs (by decide)) ?_)
  rintro ⟨x, J⟩ ⟨q2, q3⟩
  dsimp only at q2 q3 ⊢
  rw [wp_s]
  refine ⟨SM_55 q2, ?_⟩
  rcases q3 with ⟨f, f1, -⟩ | ⟨f1, -⟩
  · have h1 := f1.2.2
    have h2 := fln_le (flt (A.2.2.1 s)) f
    have h3 := f1.1
    omega
  · exact f1
theorem k_sh13 (hs : s < 4) : m_100 1 (nI s) (nI 13) I (Rc t) (Gc L) = some (NO, I) := by
  unfold m_100
  rw [r_1_0, k_2, o_g_t, c_96 hs, o_b1_s, if_neg (by omega)]
  simp (disch := decide) only [if_pos, if_neg]
theorem k_sh_s {x : Int32} : m_100 1 (nI 4) x I (Rc t) (Gc L) = some (NO, I) := by
  unfold m_100
  rw [r_1_0, k_2, o_g_t, c_96o (by decide), o_b1_s, if_pos rfl]
end
