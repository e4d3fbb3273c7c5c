/-! Out of whole's part 37.stand, by wip/p46/extract.py. -/
def hvo (V : Nat → Int32) (set e m : Nat) : Nat := if set.testBit e = true then m else (if V (set ||| 2 ^ e) ≠ NO then m ||| 2 ^ e else m)
def hvs (V : Nat → Int32) (set k : Nat) : Nat := fd (hvo V set) (List.range k) 0
theorem hvs_succ (V : Nat → Int32) (set k : Nat) : hvs V set (k + 1) = hvo V set k (hvs V set k) := by
  unfold hvs
  rw [List.range_succ, fd_append]
  rfl
theorem hvs_lt (V : Nat → Int32) (set : Nat) : ∀ k, hvs V set k < 2 ^ k
  | 0 => by
    show 0 < 1
    decide
  | k + 1 => by
    have h := hvs_lt V set k
    have h2 : 2 ^ k < 2 ^ (k + 1) := Nat.pow_lt_pow_right (by decide) (by omega)
    rw [hvs_succ]
    unfold hvo
    split
    · omega
    · split
      · exact Nat.or_lt_two_pow (by omega) h2
      · omega
/-- one place of the class's list of numbers -/
theorem c_89 {I : ai_I} {t s n r set : Nat} {L : ai_G} {V : Nat → Int32} (hs : s < 4) (hW : WF n r V) (h : CS I (6 + 4 * s) n r V) (hset : set < 2 ^ n) : ∃ J, m_58 59 (6 + 4 * s) (nI set) I (Rc t) (Gc L) = some J ∧ J 59 1 = nI (hvs V set n) ∧ (∀ c, ¬ c = 59 → ¬ c = 60 → J c = I c) ∧ (∀ e, e < n → set.testBit e = false → V (set ||| 2 ^ e) ≠ NO → J 60 e = V (set ||| 2 ^ e)) := by
  have hn := hW.2.1
  have h8 := p2_le hn
  have hv := vc_s hs
  obtain ⟨J, ⟨j1, j2, j3⟩, e⟩ := lp_ex (b := fun q => m_58_b7 59 (6 + 4 * s) (nI set) (Rc t) (Gc L) q.1 q.2) (fun i (a : ai_I) => (nI i, a)) (fun a => a) (fun i J => J 59 1 = nI (hvs V set i) ∧ (∀ c, ¬ c = 59 → ¬ c = 60 → J c = I c) ∧ (∀ e, e < i → set.testBit e = false → V (set ||| 2 ^ e) ≠ NO → J 60 e = V (set ||| 2 ^ e))) n (fun i J hi hP => by
    obtain ⟨p1, p2, p3⟩ := hP
    have hC : CS J (6 + 4 * s) n r V := CS_cong (fun _ _ => rfl) (p2 _ (by omega) (by omega)) (p2 _ (by omega) (by omega)) (p2 _ (by omega) (by omega)) (p2 _ (by omega) (by omega)) h
    have hp := p2_lt (show i < 8 by omega)
    have ho : set ||| 2 ^ i < 256 := Nat.or_lt_two_pow (n := 8) (by omega) hp
    have key : m_58_b7 59 (6 + 4 * s) (nI set) (Rc t) (Gc L) (nI i) J = some (Sum.inl (nI (i + 1), if set.testBit i = true then J else (if V (set ||| 2 ^ i) ≠ NO then va_up (va_up J 60 (va_up (J 60) i (V (set ||| 2 ^ i)))) 59 (va_up (J 59) 1 (nI (hvs V set i ||| 2 ^ i))) else J))) := by
      unfold m_58_b7
      rw [v_kd hv, o_g_t, hC.1, q_leF (by omega) hi, c_183 (by omega) (by omega), o_b1_s, q_bz, i_shl (by decide) (by omega), Nat.one_mul, i_or, c_122 hv hW hC ho, o_b1_s, o_b1_s, q_bz, v_rv hv, v_gv hv ho, o_g_t, r_59_0, g_60 (by omega), o_g_t, i_cl (by omega), i_cl (Nat.lt_trans ho (by decide)), hC.2.2.2.1 _ ho, o_b1_s, up_ne (show ¬ 59 = 60 by decide), p1, i_or, o_b1_s, i_add, o_b1_s]
      by_cases c1 : set.testBit i = true
      · rw [if_pos c1, if_pos c1]
      · rw [if_neg c1, if_neg c1]
        by_cases c2 : V (set ||| 2 ^ i) ≠ NO
        · rw [if_pos c2, if_pos c2]
        · rw [if_neg c2, if_neg c2]
    refine ⟨_, ⟨?_, fun c hc1 hc2 => ?_, fun e he he1 he2 => ?_⟩, key⟩
    · rw [hvs_succ]
      unfold hvo
      split
      · exact p1
      · split
        · rw [up_eq, up_eq]
        · exact p1
    · split
      · exact p2 c hc1 hc2
      · split
        · rw [up_ne hc1, up_ne hc2]
          exact p2 c hc1 hc2
        · exact p2 c hc1 hc2
    · by_cases hei : e = i
      · subst hei
        rw [if_neg (by rw [he1]; decide), if_pos he2, up_ne (by decide), up_eq, up_eq]
      · split
        · exact p3 e (by omega) he1 he2
        · split
          · rw [up_ne (by decide), up_eq, up_ne hei]
            exact p3 e (by omega) he1 he2
          · exact p3 e (by omega) he1 he2) (fun J hP => by
    obtain ⟨p1, p2, p3⟩ := hP
    show m_58_b7 59 (6 + 4 * s) (nI set) (Rc t) (Gc L) (nI n) J = _
    unfold m_58_b7
    rw [v_kd hv, o_g_t, p2 _ (by omega) (by omega), h.1, q_leT (by omega) (Nat.le_refl _)]) n 0 (va_up I 59 (va_up (I 59) 1 (nI 0))) o_N (by omega) ⟨by rw [up_eq, up_eq]; rfl, fun c hc1 _ => up_ne hc1, fun e he => absurd he (Nat.not_lt_zero _)⟩ (show n < 2000000 by omega)
  refine ⟨J, ?_, j1, j2, j3⟩
  unfold m_58
  rw [o_b1_s]
  show o_s1 (lp (fun q => m_58_b7 59 (6 + 4 * s) (nI set) (Rc t) (Gc L) q.1 q.2) o_N (nI 0, _)) _ = _
  rw [e, o_s1_s]
  rfl
