/-! Out of whole's part 42.span, by wip/p46/extract.py. -/
theorem c_93 {I : ai_I} {t v n r hav : Nat} {L : ai_G} {V : Nat → Int32} (hv : v ∈ VC) (hW : WF n r V) (h : CS I v n r V) (hh : I 59 1 = nI hav) (hh2 : hav < 2 ^ n) : m_62 59 v I (Rc t) (Gc L) = some (bz (cnt (flq V (I 60) hav r) n = 0)) := by
  have h8 := p2_le hW.2.1
  unfold m_62
  rw [c_91 hv hW h hh hh2 (by decide), o_b1_s]
  unfold nthE cnt
  cases hl : (List.range (2 ^ n)).filter (flq V (I 60) hav r) with
  | nil => rfl
  | cons y l =>
    have hy : y < 2 ^ n := by
      have hm : y ∈ (List.range (2 ^ n)).filter (flq V (I 60) hav r) := by rw [hl]; exact List.mem_cons_self ..
      exact List.mem_range.1 (List.mem_filter.1 hm).1
    show (if nI y = (-4 : Int32) then some (nI 1) else some (nI 0)) = _
    rw [if_neg (fun h1 => ?_), bz_f (by simp)]
    have h2 := congrArg Int32.toInt h1
    rw [nI_toInt (by omega), show (-4 : Int32).toInt = -4 from by decide] at h2
    omega
theorem c_span {I : ai_I} {t s n r : Nat} {L : ai_G} {V : Nat → Int32} (hs : s < 4) (hW : WF n r V) (h : CS I (6 + 4 * s) n r V) : ∃ J, m_63 59 (6 + 4 * s) I (Rc t) (Gc L) = some (nI (fln (spq V n r) (2 ^ n)), J) ∧ (∀ c, ¬ c = 59 → ¬ c = 60 → J c = I c) := by
  have hn := hW.2.1
  have hr := hW.2.2.2.1
  have hr1 := hW.2.2.1
  have h8 := p2_le hn
  have hv := vc_s hs
  obtain ⟨J, j1, e⟩ := lp_ex (b := fun q => m_63_b4 59 (6 + 4 * s) (Rc t) (Gc L) q.1 q.2.1 q.2.2) (fun i (J : ai_I) => (nI (fln (spq V n r) i), nI i, J)) (fun J => (nI (fln (spq V n r) (2 ^ n)), J)) (fun i J => ∀ c, ¬ c = 59 → ¬ c = 60 → J c = I c) (2 ^ n) (fun i J hi p1 => by
    have hC : CS J (6 + 4 * s) n r V := CS_cong (fun _ _ => rfl) (p1 _ (by omega) (by omega)) (p1 _ (by omega) (by omega)) (p1 _ (by omega) (by omega)) (p1 _ (by omega) (by omega)) h
    have hpc := pc_le i
    obtain ⟨K, k1, k2, k3, k5⟩ := c_89 (t := t) (L := L) hs hW hC hi
    have hCK : CS K (6 + 4 * s) n r V := CS_cong (fun _ _ => rfl) (k3 _ (by omega) (by omega)) (k3 _ (by omega) (by omega)) (k3 _ (by omega) (by omega)) (k3 _ (by omega) (by omega)) hC
    have hb : m_63_b4 59 (6 + 4 * s) (Rc t) (Gc L) (nI (fln (spq V n r) i)) (nI i) J = some (Sum.inl (nI (fln (spq V n r) (i + 1)), nI (i + 1), if pc i = r - 1 then (if rk V i = pc i then K else J) else J)) := by
      unfold m_63_b4
      rw [v_kd hv, o_g_t, c_118 hn hC.1, o_b1_s, q_leF (by omega) hi, s_331 (by omega), c_123 hv hC (by omega), k1]
      simp only [o_b1_s]
      rw [c_93 hv hW hCK k2 (Nat.lt_of_lt_of_le (hvs_lt V i n) (Nat.le_refl _))]
      simp only [o_b1_s]
      rw [c_182, hC.2.1, i_sub (by omega), q_eq (by omega) (by omega), q_bz]
      simp only [o_b1_s, i_add]
      rw [fln_succ]
      by_cases c : pc i = r - 1
      · have hq := pFz_iff hW hi c
        rw [if_pos c, if_pos c]
        by_cases z : rk V i = pc i
        · have hq1 : pFz V (r - 1) i = true := hq.2 ((hvs_rk hW hi (by omega)).1 z)
          have hcn : cnt (flq V (K 60) (hvs V i n) r) n = cnt (flq V (fun e => V (i ||| 2 ^ e)) (hvs V i n) r) n := flq_conh (fun e he h => by
            rw [hvs_tb, Bool.and_eq_true, Bool.and_eq_true] at h
            exact k5 e (of_decide_eq_true h.1) (by
              have h2 := h.2.1
              cases h3 : i.testBit e
              · rfl
              · rw [h3] at h2
                cases h2) (of_decide_eq_true h.2.2))
          rw [if_pos z, if_pos z, hcn]
          by_cases w : cnt (flq V (fun e => V (i ||| 2 ^ e)) (hvs V i n) r) n = 0
          · rw [bz_t w, if_pos (show spq V n r i = true by unfold spq; rw [hq1, decide_eq_true w]; rfl)]
            exact congrArg (fun a => some (Sum.inl (a, nI (i + 1), K))) (i_add _ 1)
          · rw [bz_f w, if_neg (show ¬ spq V n r i = true by unfold spq; rw [hq1, decide_eq_false w]; decide)]
            exact congrArg (fun a => some (Sum.inl (a, nI (i + 1), K))) (i_add _ 0)
        · rw [if_neg z, if_neg z, if_neg (fun h => by
            unfold spq pFz at h
            rw [Bool.and_eq_true, Bool.and_eq_true] at h
            exact z (of_decide_eq_true h.1.2))]
      · rw [if_neg c, if_neg c, if_neg (fun h => by
          unfold spq pFz at h
          rw [Bool.and_eq_true, Bool.and_eq_true] at h
          exact c (of_decide_eq_true h.1.1))]
    refine ⟨_, fun c h1 h2 => ?_, hb⟩
    split
    · split
      · rw [k3 c h1 h2]
        exact p1 c h1 h2
      · exact p1 c h1 h2
    · exact p1 c h1 h2) (fun J p1 => by
    show m_63_b4 59 (6 + 4 * s) (Rc t) (Gc L) _ (nI (2 ^ n)) J = _
    unfold m_63_b4
    rw [v_kd hv, o_g_t, c_118 hn ((congrFun (p1 _ (by omega) (by omega)) 0).trans h.1), o_b1_s, q_leT (by omega) (Nat.le_refl _)]) (2 ^ n) 0 I o_N (by omega) (fun _ _ _ => rfl) (show 2 ^ n < 2000000 by omega)
  refine ⟨J, ?_, j1⟩
  unfold m_63
  show o_s1 (lp (fun q => m_63_b4 59 (6 + 4 * s) (Rc t) (Gc L) q.1 q.2.1 q.2.2) o_N (nI (fln (spq V n r) 0), nI 0, I)) _ = _
  rw [e, o_s1_s]
  rfl
