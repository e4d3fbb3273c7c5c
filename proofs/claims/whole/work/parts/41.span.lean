/-! Call spanned: the two loops. -/
def spq (V : Nat → Int32) (n r x : Nat) : Bool := pFz V (r - 1) x && decide (cnt (flq V (fun e => V (x ||| 2 ^ e)) (hvs V x n) r) n = 0)
def fln (p : Nat → Bool) (k : Nat) : Nat := ((List.range k).filter p).length
theorem fln_succ (p : Nat → Bool) (k : Nat) : fln p (k + 1) = if p k = true then fln p k + 1 else fln p k := by
  unfold fln
  rw [List.range_succ, List.filter_append, List.length_append]
  by_cases h : p k = true
  · rw [if_pos h, List.filter_cons_of_pos h]
    rfl
  · rw [if_neg h, List.filter_cons_of_neg h]
    rfl
theorem fln_le (p : Nat → Bool) (k : Nat) : fln p k ≤ k := by
  have h := List.length_filter_le p (List.range k)
  rw [List.length_range] at h
  exact h
theorem pFz_iff {V : Nat → Int32} {n r x : Nat} (hW : WF n r V) (hx : x < 2 ^ n) (h : pc x = r - 1) : pFz V (r - 1) x = true ↔ ¬ hvs V x n = 0 := by
  have h1 := hW.2.2.1
  rw [← hvs_rk hW hx (by omega)]
  unfold pFz
  rw [Bool.and_eq_true, decide_eq_true_iff, decide_eq_true_iff]
  exact ⟨fun h2 => h2.2, fun h2 => ⟨h, h2⟩⟩
/-- the reference's loop -/
theorem s_span {I : ai_I} {t L s n r : Nat} (hs : s < 4) (hW : WF n r (FV I s)) (hI : I 76 (258 * s) = nI n) (hIr : I 76 (258 * s + 1) = nI r) : ∃ J, lp (fun q => m_280_b27 75 (nI s) (Rc t) (Gc L) q.1 q.2.1 q.2.2.1 q.2.2.2) o_N (nI 0, nI 0, nI 0, I) = some (nI (fln (pFz (FV I s) (r - 1)) (2 ^ n)), nI (fln (spq (FV I s) n r) (2 ^ n)), J) ∧ (∀ c, ¬ c = 75 → ¬ c = 84 → J c = I c) ∧ (∀ j, ¬ j = 23 → J 75 j = I 75 j) := by
  have hn := hW.2.1
  have hr := hW.2.2.2.1
  have hr1 := hW.2.2.1
  have h8 := p2_le hn
  have h0 := Nat.two_pow_pos n
  obtain ⟨J, ⟨j1, j2⟩, e⟩ := lp_ex (b := fun q => m_280_b27 75 (nI s) (Rc t) (Gc L) q.1 q.2.1 q.2.2.1 q.2.2.2) (fun i (J : ai_I) => (nI (fln (pFz (FV I s) (r - 1)) i), nI (fln (spq (FV I s) n r) i), nI i, J)) (fun J => (nI (fln (pFz (FV I s) (r - 1)) (2 ^ n)), nI (fln (spq (FV I s) n r) (2 ^ n)), J)) (fun i J => (∀ c, ¬ c = 75 → ¬ c = 84 → J c = I c) ∧ (∀ j, ¬ j = 23 → J 75 j = I 75 j)) (2 ^ n) (fun i J hi hP => by
    obtain ⟨p1, p2⟩ := hP
    have h76 : J 76 = I 76 := p1 76 (by decide) (by decide)
    have hF : FV J s = FV I s := by
      unfold FV
      rw [h76]
    have hpc := pc_le i
    obtain ⟨K, k1, k2, k3, k4, k5⟩ := s_279 (I := J) (t := t) (L := L) hs (by rw [hF]; exact hW) (by rw [h76]; exact hI) hi
    rw [hF] at k1 k2 k5
    have hK76 : K 76 = I 76 := (k3 76 (by decide) (by decide)).trans h76
    have hFK : FV K s = FV I s := by
      unfold FV
      rw [hK76]
    have hb : m_280_b27 75 (nI s) (Rc t) (Gc L) (nI (fln (pFz (FV I s) (r - 1)) i)) (nI (fln (spq (FV I s) n r) i)) (nI i) J = some (Sum.inl (nI (fln (pFz (FV I s) (r - 1)) (i + 1)), nI (fln (spq (FV I s) n r) (i + 1)), nI (i + 1), if pc i = r - 1 then K else J)) := by
      unfold m_280_b27
      rw [s_197 (by omega) hn (by rw [h76]; exact hI), o_b1_s, q_ltF (by omega) (by omega), s_193 (by omega), o_b1_s, s_196 (by omega), o_b1_s, h76, hIr, i_sub (by omega), q_eq (by omega) (by omega), k1, o_b2_s, q_bz, s_275c (r := r) (by omega) hn (by omega) (by rw [hK76]; exact hI) (by rw [hK76]; exact hIr) k2, hFK]
      simp only [o_b1_s, i_add]
      by_cases c : pc i = r - 1
      · have hq := pFz_iff hW hi c
        rw [if_pos c, if_pos c, fln_succ, fln_succ]
        by_cases z : hvs (FV I s) i n = 0
        · have hq1 : ¬ pFz (FV I s) (r - 1) i = true := fun h => hq.1 h z
          rw [if_neg (fun h => h z), if_neg hq1, if_neg (fun h => by
            unfold spq at h
            rw [Bool.and_eq_true] at h
            exact hq1 h.1)]
        · have hq1 : pFz (FV I s) (r - 1) i = true := hq.2 z
          have hc := cnt_le (p := flq (FV I s) (K 84) (hvs (FV I s) i n) r) hn
          have hcn : cnt (flq (FV I s) (K 84) (hvs (FV I s) i n) r) n = cnt (flq (FV I s) (fun e => FV I s (i ||| 2 ^ e)) (hvs (FV I s) i n) r) n := flq_conh (fun e he h => by
            rw [hvs_tb, Bool.and_eq_true, Bool.and_eq_true] at h
            exact k5 e (of_decide_eq_true h.1) (by
              have h2 := h.2.1
              cases h3 : i.testBit e
              · rfl
              · rw [h3] at h2
                cases h2) (of_decide_eq_true h.2.2))
          rw [if_pos z, if_pos hq1, q_e0 (by omega), hcn]
          by_cases w : cnt (flq (FV I s) (fun e => FV I s (i ||| 2 ^ e)) (hvs (FV I s) i n) r) n = 0
          · rw [if_pos w, if_pos (show spq (FV I s) n r i = true by unfold spq; rw [hq1, decide_eq_true w]; rfl)]
          · rw [if_neg w, if_neg (show ¬ spq (FV I s) n r i = true by unfold spq; rw [hq1, decide_eq_false w]; decide)]
      · have hq1 : ¬ pFz (FV I s) (r - 1) i = true := fun h => by
          unfold pFz at h
          rw [Bool.and_eq_true] at h
          exact c (of_decide_eq_true h.1)
        rw [if_neg c, if_neg c, fln_succ, fln_succ, if_neg hq1, if_neg (fun h => by
          unfold spq at h
          rw [Bool.and_eq_true] at h
          exact hq1 h.1)]
    refine ⟨_, ⟨fun c h1 h2 => ?_, fun j hj => ?_⟩, hb⟩
    · split
      · rw [k3 c h1 h2]
        exact p1 c h1 h2
      · exact p1 c h1 h2
    · split
      · rw [k4 j hj]
        exact p2 j hj
      · exact p2 j hj) (fun J hP => by
    obtain ⟨p1, p2⟩ := hP
    have h76 : J 76 = I 76 := p1 76 (by decide) (by decide)
    show m_280_b27 75 (nI s) (Rc t) (Gc L) _ _ (nI (2 ^ n)) J = _
    unfold m_280_b27
    rw [s_197 (by omega) hn (by rw [h76]; exact hI), o_b1_s, q_ltT (by omega) (by omega)]) (2 ^ n) 0 I o_N (by omega) ⟨fun _ _ _ => rfl, fun _ _ => rfl⟩ (show 2 ^ n < 2000000 by omega)
  exact ⟨J, e, j1, j2⟩
