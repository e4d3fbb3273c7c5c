/-! Call check. -/
def fz (p : Nat → Bool) (l : List Nat) : Int32 := match l.find? p with
  | some j => nI j
  | none => -1
theorem fz_cons {p : Nat → Bool} {x : Nat} {l : List Nat} : fz p (x :: l) = if p x = true then nI x else fz p l := by
  unfold fz
  rw [List.find?_cons]
  cases p x <;> rfl
def ckp (I : ai_I) (i : Nat) : Bool := decide (¬ I 42 i = nthE (BL (FV I 0)) i)
theorem by_255 : ∀ b, b < 256 → (nI b).toInt8.toInt32 &&& nI 255 = nI b := by decide +kernel
theorem b_n4 : ∀ b, b < 256 → ¬ nI b = (-4 : Int32) := by decide +kernel
theorem ck_ref {I : ai_I} {t L k : Nat} (hk : k ≤ 240) (hB : ∀ j, j < k → ∃ b, b < 256 ∧ I 42 j = nI b ∧ I 77 j = (nI b).toInt8.toInt32) : lp (fun q => m_330_b29 75 I (Rc t) (Gc L) q.1 q.2) o_N (-1, nI k - nI 1) = some (fz (ckp I) (List.range k)) := by
  obtain ⟨a, ha, e⟩ := lp_ex (b := fun q => m_330_b29 75 I (Rc t) (Gc L) q.1 q.2) (fun i (a : Int32) => (a, nI (k - i) - nI 1)) (fun a => a) (fun i a => a = fz (ckp I) (List.range' (k - i) i)) k (fun i a hi hP => by
    refine ⟨fz (ckp I) (List.range' (k - (i + 1)) (i + 1)), rfl, ?_⟩
    show m_330_b29 75 I (Rc t) (Gc L) a (nI (k - i) - nI 1) = _
    obtain ⟨b, hb, b1, b2⟩ := hB (k - (i + 1)) (by omega)
    have e1 : nI (k - i) - nI 1 = nI (k - (i + 1)) := by
      rw [i_sub (by omega)]
      congr 1
    have e2 : nI (k - (i + 1)) + (-1 : Int32) = nI (k - (i + 1)) - nI 1 := by
      rw [Int32.sub_eq_add_neg]
      rfl
    rw [List.range'_succ, fz_cons, show k - (i + 1) + 1 = k - i by omega, e1]
    unfold m_330_b29
    rw [q_n0 (by omega), r_75_2, g_77 (by omega), o_g_t, show m_264 75 (nI 0) (nI (k - (i + 1))) I (Rc t) (Gc L) = _ from s_264 (by decide) (by omega), o_b1_s, i_cl (by omega), b2, by_255 b hb, e2, o_b1_s, o_b1_s]
    by_cases c : nI b = nthE (BL (FV I 0)) (k - (i + 1))
    · rw [if_pos c, if_neg (show ¬ ckp I (k - (i + 1)) = true from fun h => (of_decide_eq_true h) (b1.trans c)), hP]
    · rw [if_neg c, if_pos (show ckp I (k - (i + 1)) = true from decide_eq_true (fun h => c (b1.symm.trans h)))]) (fun a ha => by
    show m_330_b29 75 I (Rc t) (Gc L) a (nI (k - k) - nI 1) = _
    unfold m_330_b29
    rw [Nat.sub_self, if_pos (by decide)]) k 0 (-1) o_N (by omega) rfl (show k < 2000000 by omega)
  rw [Nat.sub_self, ← List.range_eq_range'] at ha
  rw [← ha]
  exact e
theorem ck_cls {I : ai_I} {t L k n r : Nat} (hk : k ≤ 70) (hW : WF n r (FV I 0)) (hC : CS I (6 + 4 * 0) n r (FV I 0)) (hB : ∀ j, j < k → ∃ b, b < 256 ∧ I 42 j = nI b) : lp (fun s => m_181_b38 1 (nI k) (Rc t) (Gc L) I (6 + 4 * 0) s) o_N (nI 0) = some (match (List.range k).find? (ckp I) with
    | some j => .inl (nI j)
    | none => .inr ()) := by
  have hv := vc_s (s := 0) (by decide)
  have hl := BL_len hW
  refine lp_find (ckp I) k (by omega) (fun i hi => ?_) ?_
  · obtain ⟨b, hb, b1⟩ := hB i hi
    unfold m_181_b38
    rw [q_leF (by omega) hi, v_kd hv, o_g_t, hC.2.2.1]
    by_cases h : (BL (FV I 0)).length ≤ i
    · have e : nthE (BL (FV I 0)) i = -4 := by
        unfold nthE
        rw [List.getElem?_eq_none h]
      rw [q_leT (by omega) h, if_pos (show ckp I i = true from decide_eq_true (fun h2 => b_n4 b hb (by rw [← b1, h2, e])))]
    · have e : nthE (BL (FV I 0)) i = nI ((BL (FV I 0)).getD i 0) := by
        unfold nthE
        rw [List.getD_eq_getElem?_getD, List.getElem?_eq_getElem (by omega)]
        rfl
      rw [q_leF (by omega) (by omega), r_1_3, g_42 (by omega), o_g_t, v_rb hv, v_gb hv (by omega), o_g_t, i_cl (by omega), hC.2.2.2.2.2 i (by omega), i_add, o_b1_s]
      by_cases c : I 42 i = nI ((BL (FV I 0)).getD i 0)
      · rw [if_pos c, if_neg (show ¬ ckp I i = true from fun h2 => (of_decide_eq_true h2) (c.trans e.symm))]
      · rw [if_neg c, if_pos (show ckp I i = true from decide_eq_true (fun h2 => c (h2.trans e)))]
  · show m_181_b38 1 (nI k) (Rc t) (Gc L) I (6 + 4 * 0) (nI k) = _
    unfold m_181_b38
    rw [q_leT (by omega) (Nat.le_refl _)]
theorem op_check {I : ai_I} {t L : Nat} (h : ST I) (x : Int32) : OPw I (m_181 1 x I (Rc t) (Gc L)) (fun I1 => m_330 75 x I1 (Rc t) (Gc L)) := by
  have j70 : (70 : Int64) = (nI 70).toInt64 := by decide +kernel
  have hh := h
  obtain ⟨s1, s2, s3, s4, s5, n, hn, h1, h2, h3⟩ := h
  rcases x_cases x (n := 70) (by decide) with ⟨k, hk, rfl⟩ | hx
  · by_cases hkn : k ≤ n
    · obtain ⟨n0, r0, hW, hC, -, -⟩ := s1 0 (by decide)
      have hC2 : CS (va_up I 1 (va_up (I 1) 4 (nI 0))) (6 + 4 * 0) n0 r0 (FV I 0) := CS_cong (fun _ _ => rfl) (up_ne (by decide)) (up_ne (by decide)) (up_ne (by decide)) (up_ne (by decide)) hC
      have hF : FV (va_up I 1 (va_up (I 1) 4 (nI 0))) 0 = FV I 0 := by
        unfold FV
        rw [up_ne (by decide)]
      have hB : ∀ j, j < k → ∃ b, b < 256 ∧ (va_up I 1 (va_up (I 1) 4 (nI 0))) 42 j = nI b ∧ (va_up I 1 (va_up (I 1) 4 (nI 0))) 77 j = (nI b).toInt8.toInt32 := fun j hj => by
        rw [up_ne (by decide), up_ne (by decide)]
        exact h3 j (by omega)
      refine ⟨fz (ckp (va_up I 1 (va_up (I 1) 4 (nI 0)))) (List.range k), va_up I 1 (va_up (I 1) 4 (nI 0)), va_up (va_up I 1 (va_up (I 1) 4 (nI 0))) 75 (va_up (I 75) 3 (nI 0)), ?_, ?_, ?_, ?_, up_ne (by decide)⟩
      · unfold m_181
        rw [q_n0 (by omega), q_ltF (by omega) (by omega), h1, q_leT (by omega) hkn, o_b1_s, r_1_0, k_2, o_g_t, r_2_0, g_3 (by decide), o_g_t, i_cl (by decide), r_3 (by decide), o_b1_s, ck_cls (by omega) (by rw [hF]; exact hW) (by rw [hF]; exact hC2) (fun j hj => by obtain ⟨b, b1, b2, -⟩ := hB j hj; exact ⟨b, b1, b2⟩)]
        unfold fz
        cases (List.range k).find? (ckp (va_up I 1 (va_up (I 1) 4 (nI 0)))) <;> rfl
      · show m_330 75 (nI k) (va_up I 1 (va_up (I 1) 4 (nI 0))) (Rc t) (Gc L) = _
        unfold m_330
        rw [j_lit.2.1, j70, s_189i, o_b1_s, q_bz, if_pos ⟨nI_le (by omega) (by omega), nI_le hk (by omega)⟩, up_ne (show ¬ 75 = 1 by decide), h2, q_leT (by omega) hkn, o_b1_s, ck_ref (by omega) hB, o_s1_s]
        rfl
      · have e : ∀ c, ¬ c = 1 → ¬ c = 75 → (va_up (va_up I 1 (va_up (I 1) 4 (nI 0))) 75 (va_up (I 75) 3 (nI 0))) c = I c := fun c h1 h2 => by
          rw [up_ne h2, up_ne h1]
        refine ⟨ST1_of (fun c h1 h2 => e c (by omega) (by omega)) (fun j _ => by rw [e _ (by decide) (by decide)]) s1, ST2_of ?_ ?_ (fun c h1 h2 => e c (by omega) (by omega)) (fun j _ _ => by rw [e _ (by decide) (by decide)]) s2, PR_of (e _ (by decide) (by decide)) (fun j _ _ => by rw [e _ (by decide) (by decide)]) s3, XR_of (by rw [e _ (by decide) (by decide)]) (by rw [e _ (by decide) (by decide)]) s4, PA_of (by rw [e _ (by decide) (by decide)]) (e _ (by decide) (by decide)) (fun j _ _ => by rw [e _ (by decide) (by decide)]) s5, 0, by decide, ?_, ?_, fun q hq => absurd hq (Nat.not_lt_zero _)⟩
        · rw [up_ne (by decide), up_eq, up_ne (by decide)]
        · rw [up_eq, up_ne (by decide)]
        · rw [up_ne (by decide), up_eq, up_eq]
        · rw [up_eq, up_eq]
      · rw [up_ne (by decide)]
    · refine ⟨-2, I, I, ?_, ?_, hh, rfl, rfl⟩
      · unfold m_181
        rw [q_n0 (by omega), q_ltF (by omega) (by omega), h1, q_leF (by omega) (by omega)]
      · show m_330 75 (nI k) I (Rc t) (Gc L) = _
        unfold m_330
        rw [j_lit.2.1, j70, s_189i, o_b1_s, q_bz, if_pos ⟨nI_le (by omega) (by omega), nI_le hk (by omega)⟩, h2, q_leF (by omega) (by omega)]
  · refine ⟨-2, I, I, ?_, ?_, hh, rfl, rfl⟩
    · unfold m_181
      by_cases c1 : x < 0
      · rw [if_pos c1]
      · rw [if_neg c1]
        by_cases c2 : nI 70 < x
        · rw [if_pos c2]
        · exact absurd ⟨Int32.not_lt.1 c1, Int32.not_lt.1 c2⟩ hx
    · show m_330 75 x I (Rc t) (Gc L) = _
      unfold m_330
      rw [j_lit.2.1, j70, s_189i, o_b1_s, q_bz, if_neg hx]
