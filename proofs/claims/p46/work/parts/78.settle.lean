/-! Out of whole's part 78.settle, by wip/p46/extract.py. -/
theorem rk_ge {V : Nat → Int32} {b set : Nat} (h : b ∈ BL V) : pc (b &&& set) ≤ rk V set := (fdm (fun k => pc (k &&& set)) (BL V) 0).2.1 b h
theorem rk_at (V : Nat → Int32) (set : Nat) : rk V set = 0 ∨ ∃ b, b ∈ BL V ∧ rk V set = pc (b &&& set) := by
  rcases (fdm (fun k => pc (k &&& set)) (BL V) 0).2.2 with h | ⟨x, h1, h2⟩
  · exact Or.inl h
  · exact Or.inr ⟨x, h1, h2.symm⟩
/-- within a base -/
def frb (V : Nat → Int32) (set : Nat) : Prop := ∃ b, b ∈ BL V ∧ set &&& b = set
theorem frb_rk {V : Nat → Int32} {set : Nat} (h : frb V set) : rk V set = pc set := by
  obtain ⟨b, h1, h2⟩ := h
  have h3 := rk_ge (set := set) h1
  have h4 := rk_le_pc V set
  rw [Nat.and_comm, h2] at h3
  omega
theorem xr_all : ∀ a, a < 256 → ∀ e, e < 8 → a.testBit e = true → a ^^^ 2 ^ e < a ∧ (a ^^^ 2 ^ e) ||| 2 ^ e = a := by decide +kernel
theorem xr_tb {a e i : Nat} (h : ¬ i = e) : (a ^^^ 2 ^ e).testBit i = a.testBit i := by
  rw [Nat.testBit_xor, tb_2, decide_eq_false (fun h2 => h h2.symm), Bool.xor_false]
theorem nfrb {V : Nat → Int32} {set m : Nat} (hs : set < 256) (hf : ¬ frb V set) (h1 : ∀ e, e < 8 → set.testBit e = true → rk V (set ^^^ 2 ^ e) ≤ m) (h2 : m = 0 ∨ ∃ e, e < 8 ∧ set.testBit e = true ∧ m = rk V (set ^^^ 2 ^ e)) : rk V set = m := by
  refine Nat.le_antisymm ?_ ?_
  · rcases rk_at V set with h | ⟨b, b1, b2⟩
    · omega
    · have : ∃ e, e < 8 ∧ set.testBit e = true ∧ b.testBit e = false := Classical.byContradiction (fun hc => hf ⟨b, b1, sub_tb.2 (fun i hi => by
        have hi8 : i < 8 := by
          apply Nat.lt_of_not_le
          intro h3
          rw [tb_hi (n := 8) hs h3] at hi
          cases hi
        cases hb : b.testBit i with
        | true => rfl
        | false => exact absurd ⟨i, hi8, hi, hb⟩ hc)⟩)
      obtain ⟨e, e1, e2, e3⟩ := this
      have e4 : b &&& set = b &&& (set ^^^ 2 ^ e) := tb_ext (fun x => by
        rw [Nat.testBit_and, Nat.testBit_and]
        by_cases c : x = e
        · rw [c, e3, Bool.false_and, Bool.false_and]
        · rw [xr_tb c])
      rw [b2, e4]
      exact Nat.le_trans (rk_ge b1) (h1 e e1 e2)
  · rcases h2 with rfl | ⟨e, e1, e2, rfl⟩
    · exact Nat.zero_le _
    · have h3 := (xr_all set hs e e1 e2)
      have h4 := rk_up V (set := set ^^^ 2 ^ e) (e := e) (by omega) e1
      rw [h3.2] at h4
      exact h4
theorem frb_up {V : Nat → Int32} {n r set : Nat} (hW : WF n r V) (hs : set < 256) : frb V set ↔ V set ≠ NO ∨ ∃ e, e < n ∧ set.testBit e = false ∧ frb V (set ||| 2 ^ e) := by
  have hn := hW.2.1
  constructor
  · rintro ⟨b, b1, b2⟩
    by_cases c : set = b
    · exact Or.inl (c ▸ (BL_mem.1 b1).2)
    · have hb := BL_mem.1 b1
      have hbn := (hW.2.2.2.2.1 b hb.1 hb.2).1
      have : ∃ e, b.testBit e = true ∧ set.testBit e = false := Classical.byContradiction (fun hc => c (tb_ext (fun x => ⟨fun h => sub_tb.1 b2 x h, fun h => by
        cases h2 : set.testBit x with
        | true => rfl
        | false => exact absurd ⟨x, h, h2⟩ hc⟩)))
      obtain ⟨e, e1, e2⟩ := this
      refine Or.inr ⟨e, ?_, e2, b, b1, sub_tb.2 (fun i hi => ?_)⟩
      · apply Nat.lt_of_not_le
        intro h3
        rw [tb_hi hbn h3] at e1
        cases e1
      · rw [Nat.testBit_or, Bool.or_eq_true] at hi
        rcases hi with hi | hi
        · exact sub_tb.1 b2 i hi
        · rw [tb_2] at hi
          rw [← of_decide_eq_true hi]
          exact e1
  · rintro (h | ⟨e, e1, e2, b, b1, b2⟩)
    · exact ⟨set, BL_mem.2 ⟨hs, h⟩, Nat.and_self _⟩
    · refine ⟨b, b1, sub_tb.2 (fun i hi => sub_tb.1 b2 i ?_)⟩
      rw [Nat.testBit_or, hi, Bool.true_or]
/-- a shelf's arrays under the hand of a constructor or of a maker -/
def VG (v : Nat) (Rf : ai_R) (G : ai_G) : Prop := (Rf v 3 = v + 1 ∧ Rf v 4 = v + 2 ∧ Rf v 5 = v + 3) ∧ (∀ i, i < 256 → o_in G 13 (v + 1) (nI i) = true) ∧ (∀ i, i < 256 → o_in G 13 (v + 2) (nI i) = true) ∧ ∀ i, i < 70 → o_in G 13 (v + 3) (nI i) = true
theorem VG_c {v t : Nat} {L : ai_G} (h : v ∈ VC) : VG v (Rc t) (Gc L) := ⟨⟨v_rv h, v_rr h, v_rb h⟩, fun _ hi => v_gv h hi, fun _ hi => v_gr h hi, fun _ hi => v_gb h hi⟩
theorem c_116 {I : ai_I} {v set : Nat} {V : Nat → Int32} {Rf : ai_R} {G : ai_G} (hG : VG v Rf G) (hs : set < 256) (hf : ¬ frb V set) (hr : ∀ j, j < set → I (v + 2) j = nI (rk V j)) : m_83 v (nI set) I Rf G = some (nI (rk V set)) := by
  have hw : wp (m_83 v (nI set) I Rf G) (fun q => q = nI (rk V set)) := by
    unfold m_83
    refine wp_s1 (wp_lp (fun k s => ∃ m, s = (nI m, nI k) ∧ m ≤ 8 ∧ (∀ e, e < k → set.testBit e = true → rk V (set ^^^ 2 ^ e) ≤ m) ∧ (m = 0 ∨ ∃ e, e < k ∧ set.testBit e = true ∧ m = rk V (set ^^^ 2 ^ e))) 0 8 (Nat.zero_le _) (by omega) ⟨0, rfl, Nat.zero_le _, fun e he => absurd he (Nat.not_lt_zero _), Or.inl rfl⟩ ?_ ?_)
    · rintro k s hk ⟨m, rfl, h0, h1, h2⟩
      unfold m_83_b4
      dsimp only
      rw [if_neg (nI_ge hk (by decide)), c_183 hs (by omega), o_b1_s, q_bz]
      by_cases c : set.testBit k = true
      · have hx := xr_all set hs k hk c
        have h8 := rk_le V (set ^^^ 2 ^ k)
        rw [if_pos c, i_shl (by decide) (by omega), Nat.one_mul, i_xor, hG.1.2.1, hG.2.2.1 _ (by omega), o_g_t, i_cl (by omega), hr _ hx.1]
        have hm : (if nI m < nI (rk V (set ^^^ 2 ^ k)) then nI (rk V (set ^^^ 2 ^ k)) else nI m) = nI (max m (rk V (set ^^^ 2 ^ k))) := by
          by_cases c2 : m < rk V (set ^^^ 2 ^ k)
          · rw [if_pos (nI_lt c2 (by omega)), show max m (rk V (set ^^^ 2 ^ k)) = rk V (set ^^^ 2 ^ k) by omega]
          · rw [if_neg (show ¬ nI m < nI (rk V (set ^^^ 2 ^ k)) by rw [i_lt (by omega) (by omega)]; exact c2), show max m (rk V (set ^^^ 2 ^ k)) = m by omega]
        rw [hm, o_b1_s, i_add, o_b1_s, wp_s, lq_l]
        refine ⟨_, rfl, by omega, fun e he h3 => ?_, ?_⟩
        · by_cases c2 : e = k
          · rw [c2]
            omega
          · have := h1 e (by omega) h3
            omega
        · by_cases c2 : m ≤ rk V (set ^^^ 2 ^ k)
          · exact Or.inr ⟨k, by omega, c, by omega⟩
          · rcases h2 with h2 | ⟨e, e1, e2, e3⟩
            · omega
            · exact Or.inr ⟨e, by omega, e2, by omega⟩
      · rw [if_neg c, i_add, o_b1_s, wp_s, lq_l]
        refine ⟨m, rfl, h0, fun e he h3 => ?_, ?_⟩
        · by_cases c2 : e = k
          · rw [c2] at h3
            exact absurd h3 c
          · exact h1 e (by omega) h3
        · rcases h2 with h2 | ⟨e, e1, e2, e3⟩
          · exact Or.inl h2
          · exact Or.inr ⟨e, by omega, e2, e3⟩
    · rintro s ⟨m, rfl, h0, h1, h2⟩
      unfold m_83_b4
      dsimp only
      rw [if_pos (Int32.le_refl _), wp_s, lq_r]
      exact ⟨_, rfl, by rw [nfrb hs hf h1 h2]⟩
  obtain ⟨q, q1, rfl⟩ := hw
  exact q1
def fm (V : Nat → Int32) (j : Nat) (x : Int32) : Prop := (frb V j ∧ x = nI (pc j)) ∨ (¬ frb V j ∧ x = -1)
theorem fm_neg {V : Nat → Int32} {j : Nat} {x : Int32} (h : fm V j x) : 0 ≤ x ↔ frb V j := by
  rcases h with ⟨h1, rfl⟩ | ⟨h1, rfl⟩
  · have := pc_le j
    exact ⟨fun _ => h1, fun _ => nI_pos' (by omega)⟩
  · exact ⟨fun h => absurd h (by decide), fun h => absurd h h1⟩
theorem c_115 {I : ai_I} {v n r : Nat} {V : Nat → Int32} {Rf : ai_R} {G : ai_G} (hG : VG v Rf G) (hW : WF n r V) (h0 : I v 0 = nI n) (hV : ∀ k, k < 256 → I (v + 1) k = V k) : wp (m_82 v I Rf G) (fun M => ot I M (v + 2) ∧ ∀ j, j < 256 → fm V j (M (v + 2) j)) := by
  have hn := hW.2.1
  unfold m_82
  refine wp_s1 (wp_lpd (fun m s => s.1 = dwn m ∧ ot I s.2 (v + 2) ∧ ∀ j, m ≤ j → j < 256 → fm V j (s.2 (v + 2) j)) 0 256 (Nat.zero_le _) (by omega) ⟨(dwn_s 255).symm, fun _ _ => rfl, fun j h1 h2 => absurd h2 (by omega)⟩ ?_ ?_)
  · rintro m ⟨s, M⟩ - hm ⟨h1, h2, h3⟩
    dsimp only at h1 h2 h3
    rw [dwn_s] at h1
    subst h1
    unfold m_82_b4
    dsimp only
    rw [if_neg (nI_pos (by omega)), hG.1.1, hG.2.1 m hm, o_g_t, i_cl (by omega)]
    have hMV : M (v + 1) m = V m := by rw [h2 (v + 1) (by omega), hV m hm]
    -- what is written behind
    have write : ∀ x : Int32, fm V m x → wp (m_82_j89 v Rf G (nI m) M x) (lq (fun s => s.1 = dwn m ∧ ot I s.2 (v + 2) ∧ ∀ j, m ≤ j → j < 256 → fm V j (s.2 (v + 2) j)) (fun a => wp (m_82_x4_96 a) (fun M => ot I M (v + 2) ∧ ∀ j, j < 256 → fm V j (M (v + 2) j)))) := by
      intro x hx
      unfold m_82_j89
      rw [hG.1.2.1, hG.2.2.1 m hm, o_g_t, i_cl (by omega), o_b1_s, o_b1_s, wp_s, lq_l]
      refine ⟨rfl, fun c hc => by dsimp only; rw [up_ne hc]; exact h2 c hc, fun j j1 j2 => ?_⟩
      dsimp only
      rw [up_eq]
      by_cases c : j = m
      · rw [c, up_eq]
        exact hx
      · rw [up_ne c]
        exact h3 j (by omega) j2
    have j24 : ∀ b : Nat, b ≤ 1 → (b = 1 ↔ V m ≠ NO) → wp (m_82_j24 v Rf G (nI m) M (nI b)) (lq (fun s => s.1 = dwn m ∧ ot I s.2 (v + 2) ∧ ∀ j, m ≤ j → j < 256 → fm V j (s.2 (v + 2) j)) (fun a => wp (m_82_x4_96 a) (fun M => ot I M (v + 2) ∧ ∀ j, j < 256 → fm V j (M (v + 2) j)))) := by
      intro b hb hbV
      have fin : ∀ y : Nat, y ≤ 1 → (y = 1 ↔ frb V m) → wp (m_82_x27_72 v Rf G (nI m) M (nI y)) (lq (fun s => s.1 = dwn m ∧ ot I s.2 (v + 2) ∧ ∀ j, m ≤ j → j < 256 → fm V j (s.2 (v + 2) j)) (fun a => wp (m_82_x4_96 a) (fun M => ot I M (v + 2) ∧ ∀ j, j < 256 → fm V j (M (v + 2) j)))) := by
        intro y hy hyf
        unfold m_82_x27_72
        rw [q_e0 (by omega)]
        by_cases c : y = 0
        · rw [if_pos c]
          exact write (-1) (Or.inr ⟨fun h => by have := hyf.2 h; omega, rfl⟩)
        · rw [if_neg c, s_331 hm, o_b1_s]
          exact write _ (Or.inl ⟨hyf.1 (by omega), rfl⟩)
      unfold m_82_j24
      refine wp_s1 (wp_lp (fun k s => ∃ y, s = (nI y, nI k) ∧ y ≤ 1 ∧ (y = 1 ↔ (V m ≠ NO ∨ ∃ e, e < k ∧ m.testBit e = false ∧ frb V (m ||| 2 ^ e)))) 0 n (Nat.zero_le _) (by omega) ⟨b, rfl, hb, hbV.trans ⟨Or.inl, fun h => h.resolve_right (fun ⟨e, he, _⟩ => absurd he (Nat.not_lt_zero _))⟩⟩ ?_ ?_)
      · rintro k s hk ⟨y, rfl, y1, y2⟩
        unfold m_82_b27
        dsimp only
        rw [if_neg (show ¬ M v 0 ≤ nI k by rw [h2 v (by omega), h0]; exact nI_ge hk (by omega)), q_e0 (by omega)]
        by_cases c : y = 0
        · have hno : ¬ (V m ≠ NO ∨ ∃ e, e < k ∧ m.testBit e = false ∧ frb V (m ||| 2 ^ e)) := fun h => by
            have := y2.2 h
            omega
          rw [if_pos c, c_183 hm (by omega), o_b1_s, q_bz]
          by_cases c2 : m.testBit k = true
          · rw [if_pos c2, i_add, o_b1_s, wp_s, lq_l]
            refine ⟨0, rfl, by omega, ⟨fun h => absurd h (by omega), fun h => ?_⟩⟩
            rcases h with h | ⟨e, e1, e2, e3⟩
            · exact absurd (Or.inl h) hno
            · by_cases e4 : e = k
              · rw [e4, c2] at e2
                cases e2
              · exact absurd (Or.inr ⟨e, by omega, e2, e3⟩) hno
          · have c3 := not_tb c2
            have ho : m ||| 2 ^ k < 256 := bit_or_lt hm (p2_lt (by omega))
            have hgt := or_gt m hm k (by omega) c3
            have hf := h3 _ (by omega) ho
            rw [if_neg c2, i_shl (by decide) (by omega), Nat.one_mul, i_or, hG.1.2.1, hG.2.2.1 _ ho, o_g_t, i_cl (by omega)]
            by_cases c4 : frb V (m ||| 2 ^ k)
            · rw [if_neg (Int32.not_lt.2 ((fm_neg hf).2 c4)), i_add, o_b1_s, wp_s, lq_l]
              exact ⟨1, rfl, by omega, ⟨fun _ => Or.inr ⟨k, by omega, c3, c4⟩, fun _ => rfl⟩⟩
            · rw [if_pos (Int32.not_le.1 (fun h => c4 ((fm_neg hf).1 h))), i_add, o_b1_s, wp_s, lq_l]
              refine ⟨0, rfl, by omega, ⟨fun h => absurd h (by omega), fun h => ?_⟩⟩
              rcases h with h | ⟨e, e1, e2, e3⟩
              · exact absurd (Or.inl h) hno
              · by_cases e4 : e = k
                · rw [e4] at e3
                  exact absurd e3 c4
                · exact absurd (Or.inr ⟨e, by omega, e2, e3⟩) hno
        · rw [if_neg c, wp_s, lq_r]
          refine fin y y1 (Iff.trans ⟨fun h => ?_, fun _ => by omega⟩ (frb_up hW hm).symm)
          rcases y2.1 h with h | ⟨e, e1, e2, e3⟩
          · exact Or.inl h
          · exact Or.inr ⟨e, by omega, e2, e3⟩
      · rintro s ⟨y, rfl, y1, y2⟩
        unfold m_82_b27
        dsimp only
        rw [if_pos (show M v 0 ≤ nI n by rw [h2 v (by omega), h0]; exact Int32.le_refl _), wp_s, lq_r]
        exact fin y y1 (y2.trans (frb_up hW hm).symm)
    by_cases c : V m = NO
    · rw [if_pos (show M (v + 1) m = -2147483648 by rw [hMV]; exact c)]
      exact j24 0 (by omega) ⟨fun h => absurd h (by omega), fun h => absurd c h⟩
    · rw [if_neg (show ¬ M (v + 1) m = -2147483648 by rw [hMV]; exact c)]
      exact j24 1 (by omega) ⟨fun _ => c, fun _ => rfl⟩
  · rintro ⟨s, M⟩ ⟨h1, h2, h3⟩
    dsimp only at h1 h2 h3
    rw [dwn_0] at h1
    subst h1
    unfold m_82_b4
    dsimp only
    rw [if_pos (by decide), wp_s, lq_r]
    exact ⟨_, rfl, h2, fun j hj => h3 j (Nat.zero_le _) hj⟩
theorem BLk {V : Nat → Int32} (k : Nat) : (List.range (k + 1)).filter (fun x => decide (V x ≠ NO)) = if V k = NO then (List.range k).filter (fun x => decide (V x ≠ NO)) else (List.range k).filter (fun x => decide (V x ≠ NO)) ++ [k] := by
  rw [List.range_succ, List.filter_append, List.filter_cons]
  by_cases c : V k = NO
  · rw [if_pos c, if_neg (by rw [decide_eq_false (fun h => h c)]; decide), List.filter_nil, List.append_nil]
  · rw [if_neg c, if_pos (decide_eq_true c), List.filter_nil]
theorem c_114 {I : ai_I} {v n r : Nat} {V : Nat → Int32} {Rf : ai_R} {G : ai_G} (hG : VG v Rf G) (hW : WF n r V) (h0 : I v 0 = nI n) (h1 : I v 1 = nI r) (hV : ∀ k, k < 256 → I (v + 1) k = V k) : wp (m_81 v I Rf G) (fun M => CS M v n r V ∧ (∀ c, ¬ c = v → ¬ c = v + 2 → ¬ c = v + 3 → M c = I c) ∧ ∀ j, ¬ j = 2 → M v j = I v j) := by
  have hl := BL_len hW
  have hmono : ∀ k, k < 256 → V k ≠ NO → ((List.range k).filter (fun x => decide (V x ≠ NO))).length < 70 := fun k hk hVk => by
    have e1 : fln (fun x => decide (V x ≠ NO)) (k + 1) = fln (fun x => decide (V x ≠ NO)) k + 1 := fq_t (decide_eq_true hVk)
    have e2 : fln (fun x => decide (V x ≠ NO)) (k + 1) ≤ fln (fun x => decide (V x ≠ NO)) 256 := fln_mono (255 - k) _ _ (by omega)
    have e3 : fln (fun x => decide (V x ≠ NO)) 256 = (BL V).length := rfl
    show fln (fun x => decide (V x ≠ NO)) k < 70
    omega
  unfold m_81
  rw [o_b1_s]
  refine wp_s1 (wp_lp (fun i s => s.1 = nI i ∧ (∀ c, ¬ c = v → ¬ c = v + 3 → s.2 c = I c) ∧ (∀ j, ¬ j = 2 → s.2 v j = I v j) ∧ s.2 v 2 = nI ((List.range i).filter (fun x => decide (V x ≠ NO))).length ∧ ∀ p, p < ((List.range i).filter (fun x => decide (V x ≠ NO))).length → s.2 (v + 3) p = nI (((List.range i).filter (fun x => decide (V x ≠ NO))).getD p 0)) 0 256 (Nat.zero_le _) (by omega) ⟨rfl, fun c c1 c2 => up_ne c1, fun j hj => by dsimp only; rw [up_eq, up_ne hj], by dsimp only; rw [up_eq, up_eq]; rfl, fun p hp => absurd hp (Nat.not_lt_zero _)⟩ ?_ ?_)
  · rintro i ⟨s, M⟩ hi ⟨g1, g2, g3, g4, g5⟩
    dsimp only at g1 g2 g3 g4 g5
    subst g1
    have hMV : M (v + 1) i = V i := by rw [g2 (v + 1) (by omega) (by omega), hV i hi]
    unfold m_81_b7
    dsimp only
    rw [if_neg (nI_ge hi (by decide)), hG.1.1, hG.2.1 i hi, o_g_t, i_cl (by omega)]
    rw [BLk i]
    by_cases c : V i = NO
    · rw [if_pos (show M (v + 1) i = -2147483648 by rw [hMV]; exact c), if_pos c, i_add, o_b1_s, wp_s, lq_l]
      exact ⟨rfl, g2, g3, g4, g5⟩
    · have hm := hmono i hi c
      generalize (List.range i).filter (fun x => decide (V x ≠ NO)) = l at g4 g5 hm ⊢
      rw [if_neg (show ¬ M (v + 1) i = -2147483648 by rw [hMV]; exact c), if_neg c, if_neg (show ¬ nI 70 ≤ M v 2 by rw [g4]; exact nI_ge hm (by decide)), hG.1.2.2, g4, hG.2.2.2 _ hm, o_g_t, i_cl (by omega), o_b1_s, o_b1_s, i_add, o_b1_s, wp_s, lq_l]
      refine ⟨rfl, fun c c1 c2 => by dsimp only; rw [up_ne c1, up_ne c2]; exact g2 c c1 c2, fun j hj => by dsimp only; rw [up_eq, up_ne hj, up_ne (by omega)]; exact g3 j hj, ?_, fun p hp => ?_⟩
      · dsimp only
        rw [up_eq, up_eq, up_ne (by omega), g4, i_add, List.length_append]
        rfl
      · dsimp only
        rw [up_ne (by omega), up_eq, List.getD_eq_getElem?_getD]
        rw [List.length_append, List.length_singleton] at hp
        by_cases e : p < l.length
        · rw [up_ne (by omega), List.getElem?_append_left e, g5 p e, List.getD_eq_getElem?_getD]
        · obtain rfl : p = l.length := by omega
          rw [up_eq, List.getElem?_append_right (Nat.le_refl _), Nat.sub_self]
          rfl
  · rintro ⟨s, M⟩ ⟨g1, g2, g3, g4, g5⟩
    dsimp only at g1 g2 g3 g4 g5
    subst g1
    unfold m_81_b7
    dsimp only
    rw [if_pos (Int32.le_refl _), wp_s, lq_r]
    unfold m_81_x7_60
    refine wp_b1 (wp_mono (c_115 (I := M) (v := v) (n := n) (r := r) (V := V) hG hW (by rw [g3 0 (by decide), h0]) (fun k hk => by rw [g2 (v + 1) (by omega) (by omega), hV k hk])) ?_)
    rintro K ⟨k1, k2⟩
    refine wp_s1 (wp_lp (fun i s => s.1 = nI i ∧ ot K s.2 (v + 2) ∧ (∀ j, j < i → s.2 (v + 2) j = nI (rk V j)) ∧ ∀ j, i ≤ j → s.2 (v + 2) j = K (v + 2) j) 0 256 (Nat.zero_le _) (by omega) ⟨rfl, fun _ _ => rfl, fun j hj => absurd hj (Nat.not_lt_zero _), fun _ _ => rfl⟩ ?_ ?_)
    · rintro i ⟨s, N⟩ hi ⟨p1, p2, p3, p4⟩
      dsimp only at p1 p2 p3 p4
      subst p1
      have hf := k2 i hi
      rw [← p4 i (Nat.le_refl _)] at hf
      unfold m_81_b66
      dsimp only
      rw [if_neg (nI_ge hi (by decide)), hG.1.2.1, hG.2.2.1 i hi, o_g_t, i_cl (by omega)]
      by_cases c : frb V i
      · rw [if_pos ((fm_neg hf).2 c), i_add, o_b1_s, wp_s, lq_l]
        refine ⟨rfl, p2, fun j hj => ?_, fun j hj => p4 j (by omega)⟩
        by_cases e : j = i
        · subst e
          rcases hf with ⟨-, hf⟩ | ⟨hf, -⟩
          · dsimp only
            rw [hf, frb_rk c]
          · exact absurd c hf
        · exact p3 j (by omega)
      · rw [if_neg (fun h => c ((fm_neg hf).1 h)), c_116 hG hi c p3, o_b1_s, o_g_t, o_b1_s, i_add, o_b1_s, wp_s, lq_l]
        refine ⟨rfl, fun x hx => by dsimp only; rw [up_ne hx]; exact p2 x hx, fun j hj => ?_, fun j hj => ?_⟩
        · dsimp only
          rw [up_eq]
          by_cases e : j = i
          · rw [e, up_eq]
          · rw [up_ne e]
            exact p3 j (by omega)
        · dsimp only
          rw [up_eq, up_ne (by omega)]
          exact p4 j (by omega)
    · rintro ⟨s, N⟩ ⟨p1, p2, p3, p4⟩
      dsimp only at p1 p2 p3 p4
      subst p1
      unfold m_81_b66
      dsimp only
      rw [if_pos (Int32.le_refl _), wp_s, lq_r]
      have q1 : ∀ c, ¬ c = v + 2 → N c = M c := fun c hc => (p2 c hc).trans (k1 c hc)
      refine ⟨N, rfl, ⟨?_, ?_, ?_, fun k hk => ?_, p3, fun p hp => ?_⟩, fun c c1 c2 c3 => (q1 c c2).trans (g2 c c1 c3), fun j hj => by rw [q1 v (by omega)]; exact g3 j hj⟩
      · rw [q1 v (by omega), g3 0 (by decide), h0]
      · rw [q1 v (by omega), g3 1 (by decide), h1]
      · rw [q1 v (by omega), g4]
        rfl
      · rw [q1 _ (by omega), g2 _ (by omega) (by omega), hV k hk]
      · rw [q1 _ (by omega)]
        exact g5 p hp
