/-! Call spanned: the reference's list, and that both are empty at the same sets. -/
theorem s_279 {I : ai_I} {t L s n r set : Nat} (hs : s < 4) (hW : WF n r (FV I s)) (hI : I 76 (258 * s) = nI n) (hset : set < 2 ^ n) : ∃ J, m_279 75 (nI s) (nI set) I (Rc t) (Gc L) = some (bz (¬ hvs (FV I s) set n = 0), J) ∧ J 75 23 = nI (hvs (FV I s) set n) ∧ (∀ c, ¬ c = 75 → ¬ c = 84 → J c = I c) ∧ (∀ j, ¬ j = 23 → J 75 j = I 75 j) ∧ (∀ e, e < n → set.testBit e = false → FV I s (set ||| 2 ^ e) ≠ NO → J 84 e = FV I s (set ||| 2 ^ e)) := by
  have hn := hW.2.1
  have h8 := p2_le hn
  obtain ⟨J, ⟨j1, j2, j3, j4⟩, e⟩ := lp_ex (b := fun q => m_279_b7 75 (nI s) (nI set) (Rc t) (Gc L) q.1 q.2) (fun i (a : ai_I) => (nI i, a)) (fun a => a) (fun i J => J 75 23 = nI (hvs (FV I s) set i) ∧ (∀ c, ¬ c = 75 → ¬ c = 84 → J c = I c) ∧ (∀ j, ¬ j = 23 → J 75 j = I 75 j) ∧ (∀ e, e < i → set.testBit e = false → FV I s (set ||| 2 ^ e) ≠ NO → J 84 e = FV I s (set ||| 2 ^ e))) n (fun i J hi hP => by
    obtain ⟨p1, p2, p4, p3⟩ := hP
    have hF : FV J s = FV I s := by
      unfold FV
      rw [p2 76 (by decide) (by decide)]
    have hp := p2_lt (show i < 8 by omega)
    have ho : set ||| 2 ^ i < 256 := Nat.or_lt_two_pow (n := 8) (by omega) hp
    have hF2 : FV (va_up J 75 (va_up (J 75) 23 (nI (hvs (FV I s) set i ||| 2 ^ i)))) s = FV I s := by
      rw [← hF]
      unfold FV
      rw [up_ne (by decide)]
    have key : m_279_b7 75 (nI s) (nI set) (Rc t) (Gc L) (nI i) J = some (Sum.inl (nI (i + 1), if set.testBit i = true then J else (if FV I s (set ||| 2 ^ i) ≠ NO then va_up (va_up J 75 (va_up (J 75) 23 (nI (hvs (FV I s) set i ||| 2 ^ i)))) 84 (va_up (J 84) i (FV I s (set ||| 2 ^ i))) else J))) := by
      unfold m_279_b7
      rw [s_195 (by omega), o_b1_s, p2 76 (by decide) (by decide), hI, q_leF (by omega) hi, s_192 (by omega) (by omega), o_b1_s, q_bz, i_shl (by decide) (by omega), Nat.one_mul, i_or, s_199 (by omega) ho, hF, p1, i_or]
      simp only [o_b1_s, i_add]
      rw [q_bz, s_198 (by omega) ho, hF2, o_b1_s, r_75_22, g_84 (by omega), o_g_t, i_cl (by omega), up_ne (show ¬ 84 = 75 by decide)]
      by_cases c1 : set.testBit i = true
      · rw [if_pos c1, if_pos c1]
      · rw [if_neg c1, if_neg c1]
        by_cases c2 : FV I s (set ||| 2 ^ i) ≠ NO
        · rw [if_pos c2, if_pos c2]
        · rw [if_neg c2, if_neg c2]
    refine ⟨_, ⟨?_, fun c hc1 hc2 => ?_, fun j hj => ?_, fun e he he1 he2 => ?_⟩, key⟩
    · rw [hvs_succ]
      unfold hvo
      split
      · exact p1
      · split
        · rw [up_ne (by decide), up_eq, up_eq]
        · exact p1
    · split
      · exact p2 c hc1 hc2
      · split
        · rw [up_ne hc2, up_ne hc1]
          exact p2 c hc1 hc2
        · exact p2 c hc1 hc2
    · split
      · exact p4 j hj
      · split
        · rw [up_ne (by decide), up_eq, up_ne hj]
          exact p4 j hj
        · exact p4 j hj
    · by_cases hei : e = i
      · subst hei
        rw [if_neg (by rw [he1]; decide), if_pos he2, up_eq, up_eq]
      · split
        · exact p3 e (by omega) he1 he2
        · split
          · rw [up_eq, up_ne hei]
            exact p3 e (by omega) he1 he2
          · exact p3 e (by omega) he1 he2) (fun J hP => by
    obtain ⟨p1, p2, p4, p3⟩ := hP
    show m_279_b7 75 (nI s) (nI set) (Rc t) (Gc L) (nI n) J = _
    unfold m_279_b7
    rw [s_195 (by omega), o_b1_s, p2 76 (by decide) (by decide), hI, q_leT (by omega) (Nat.le_refl _)]) n 0 (va_up I 75 (va_up (I 75) 23 (nI 0))) o_N (by omega) ⟨by rw [up_eq, up_eq]; rfl, fun c hc1 _ => up_ne hc1, fun j hj => by rw [up_eq, up_ne hj], fun e he => absurd he (Nat.not_lt_zero _)⟩ (show n < 2000000 by omega)
  have hlt := hvs_lt (FV I s) set n
  refine ⟨J, ?_, j1, j2, j3, j4⟩
  unfold m_279
  rw [o_b1_s]
  show o_s1 (lp (fun q => m_279_b7 75 (nI s) (nI set) (Rc t) (Gc L) q.1 q.2) o_N (nI 0, _)) _ = _
  rw [e, o_s1_s]
  show m_279_x7_74 75 J = _
  unfold m_279_x7_74
  rw [j1, q_e0 (by omega)]
  by_cases hz : hvs (FV I s) set n = 0
  · rw [if_pos hz, bz_f (fun h2 => h2 hz)]
  · rw [if_neg hz, bz_t hz]
