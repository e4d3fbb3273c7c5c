/-! Out of whole's part 26.space, by wip/p46/extract.py. -/
theorem cpy_at {f g : Nat → Int32} {k n : Nat} (hk : k < n) : va_cpy f g 0 0 n k = f k := by
  unfold va_cpy
  simp [hk]
theorem fd_idle {α : Type} {f : Nat → α → α} : ∀ {l : List Nat} {a : α}, (∀ x ∈ l, ∀ a, f x a = a) → fd f l a = a
  | [], a, h => rfl
  | x :: l, a, h => by
    show fd f l (f x a) = a
    rw [h x (List.mem_cons_self ..)]
    exact fd_idle (fun y hy => h y (List.mem_cons_of_mem _ hy))
theorem range_8 : ∀ n, n < 9 → List.range 8 = List.range n ++ List.range' n (8 - n) := by decide
/-- one place of the test whether the greatest is met twice -/
def twc (V num : Nat → Int32) (hav set e : Nat) (a : Int32 × Nat) : Int32 × Nat :=
  if (set &&& hav).testBit e = true then (if V (set ^^^ 2 ^ e) ≠ NO then (if V (set ^^^ 2 ^ e) + num e ≤ a.1 then (a.1, if V (set ^^^ 2 ^ e) + num e = a.1 then a.2 + 1 else a.2) else (V (set ^^^ 2 ^ e) + num e, 1)) else a) else a
def tws (V num : Nat → Int32) (hav set : Nat) : Int32 × Nat := fd (twc V num hav set) (List.range 8) (NO, 0)
theorem twc_hi {V num : Nat → Int32} {hav set n e : Nat} (hh : hav < 2 ^ n) (he : n ≤ e) (a : Int32 × Nat) : twc V num hav set e a = a := by
  unfold twc
  rw [if_neg]
  rw [Nat.testBit_and, tb_hi hh he, Bool.and_false]
  decide
theorem tws_n {V num : Nat → Int32} {hav set n : Nat} (hn : n ≤ 8) (hh : hav < 2 ^ n) : tws V num hav set = fd (twc V num hav set) (List.range n) (NO, 0) := by
  unfold tws
  rw [range_8 n (by omega), fd_append, fd_idle (fun x hx a => twc_hi hh (List.mem_range'_1.1 hx).1 a)]
theorem twc_le (V num : Nat → Int32) (hav set e : Nat) (a : Int32 × Nat) : (twc V num hav set e a).2 ≤ a.2 + 1 := by
  unfold twc
  split
  · split
    · split
      · show (if _ then a.2 + 1 else a.2) ≤ a.2 + 1
        split
        · exact Nat.le_refl _
        · exact Nat.le_succ _
      · show 1 ≤ a.2 + 1
        omega
    · omega
  · omega
theorem tws_le' (V num : Nat → Int32) (hav set : Nat) : ∀ (l : List Nat) (a : Int32 × Nat), (fd (twc V num hav set) l a).2 ≤ a.2 + l.length
  | [], a => Nat.le_refl _
  | x :: l, a => by
    have h := tws_le' V num hav set l (twc V num hav set x a)
    have h2 := twc_le V num hav set x a
    show (fd (twc V num hav set) l (twc V num hav set x a)).2 ≤ a.2 + (l.length + 1)
    omega
theorem tws_le (V num : Nat → Int32) (hav set : Nat) : (tws V num hav set).2 ≤ 8 := by
  have h := tws_le' V num hav set (List.range 8) (NO, 0)
  have h2 : (List.range 8).length = 8 := List.length_range
  unfold tws
  rw [h2] at h
  exact Nat.le_trans h (by decide)
theorem c_90 {I : ai_I} {t v n r set hav : Nat} {L : ai_G} {V : Nat → Int32} (hv : v ∈ VC) (hW : WF n r V) (h : CS I v n r V) (hset : set < 256) (hh : I 59 1 = nI hav) (hh2 : hav < 2 ^ n) : m_59 59 v (nI set) I (Rc t) (Gc L) = some (bz ((tws V (I 60) hav set).2 = 1)) := by
  have hn := hW.2.1
  unfold m_59
  refine lp_fd_s1 (fun k (a : Int32 × Nat) => (a.1, nI a.2, nI k)) (twc V (I 60) hav set) (fun a => nI a.2) (fun k a => a.2 ≤ k) n (NO, 0) ?_ ?_ (Nat.zero_le _) (by omega) ?_
  · intro e a he ha
    have hp := p2_lt (e := e) (by omega)
    have hx := bit_xor_lt hset hp
    have hst : set &&& hav < 256 := bit_and_lt hset
    have key : m_59_b9 59 v (nI set) I (Rc t) (Gc L) a.1 (nI a.2) (nI e) = some (Sum.inl ((twc V (I 60) hav set e a).1, nI (twc V (I 60) hav set e a).2, nI (e + 1))) := by
      unfold m_59_b9 m_59_j78 m_59_j91
      rw [v_kd hv, o_g_t, h.1, q_leF (by omega) he, hh, i_and, c_183 hst (by omega), o_b1_s, q_bz, i_shl (by decide) (by omega), Nat.one_mul, i_xor, c_122 hv hW h hx, o_b1_s, q_bz, v_rv hv, v_gv hv hx, o_g_t, r_59_0, g_60 (by omega), o_g_t, i_cl (by omega), i_cl (by omega), h.2.2.2.1 _ hx]
      simp only [show m_112 (nI 1) = some (nI 1) from rfl, show m_112 (nI 0) = some (nI 0) from rfl, o_b1_s, i_add]
      unfold twc
      by_cases c1 : (set &&& hav).testBit e = true
      · rw [if_pos c1, if_pos c1]
        by_cases c2 : V (set ^^^ 2 ^ e) ≠ NO
        · rw [if_pos c2, if_pos c2]
          by_cases c3 : V (set ^^^ 2 ^ e) + I 60 e ≤ a.1
          · rw [if_pos c3, if_pos c3]
            by_cases c5 : V (set ^^^ 2 ^ e) + I 60 e = a.1
            · rw [if_pos c5]
              simp only [if_pos c5]
            · rw [if_neg c5]
              simp only [if_neg c5]
              rfl
          · rw [if_neg c3, if_neg c3, if_pos trivial]
        · rw [if_neg c2, if_neg c2]
      · rw [if_neg c1, if_neg c1]
    refine ⟨?_, key⟩
    have h9 := twc_le V (I 60) hav set e a
    show (twc V (I 60) hav set e a).2 ≤ e + 1
    omega
  · intro a ha
    show m_59_b9 59 v (nI set) I (Rc t) (Gc L) a.1 (nI a.2) (nI n) = _
    unfold m_59_b9
    rw [v_kd hv, o_g_t, h.1, q_leT (by omega) (Nat.le_refl _)]
  · have h9 := tws_le V (I 60) hav set
    rw [← tws_n hn hh2]
    show m_59_x9_103 (nI (tws V (I 60) hav set).2) = _
    unfold m_59_x9_103
    rw [q_eq (by omega) (by decide)]
    by_cases h : (tws V (I 60) hav set).2 = 1
    · rw [if_pos h, bz_t h]
    · rw [if_neg h, bz_f h]
/-- a set of r + 1 that fails -/
def flq (V num : Nat → Int32) (hav r x : Nat) : Bool := decide (pc x = r + 1) && decide ((tws V num hav x).2 = 1)
theorem c_91 {I : ai_I} {t v n r hav j : Nat} {L : ai_G} {V : Nat → Int32} (hv : v ∈ VC) (hW : WF n r V) (h : CS I v n r V) (hh : I 59 1 = nI hav) (hh2 : hav < 2 ^ n) (hj : j < 2147483648) : m_60 59 v (nI j) I (Rc t) (Gc L) = some (nthE ((List.range (2 ^ n)).filter (flq V (I 60) hav r)) j) := by
  have hn := hW.2.1
  have hr := hW.2.2.2.1
  have h8 := p2_le hn
  unfold m_60
  rw [lp_fs_o (fun i a => (nI a, nI i)) (fun x m => if flq V (I 60) hav r x = true then (if m = 0 then .inr (.inl (nI x)) else .inl (m - 1)) else .inl m) (fun _ => .inr ()) (fun i m => m < 2147483648) (2 ^ n) j ?_ ?_ hj (by omega), nth_dn (flq V (I 60) hav r) (fun x => (Sum.inl (nI x) : Int32 ⊕ Unit))]
  · unfold nthE
    cases ((List.range (2 ^ n)).filter (flq V (I 60) hav r))[j]? <;> rfl
  · intro x m hx hm
    have hpc := pc_le x
    have key : m_60_b5 59 v I (Rc t) (Gc L) (nI m) (nI x) = some (match (if flq V (I 60) hav r x = true then (if m = 0 then .inr (.inl (nI x)) else .inl (m - 1)) else .inl m : Nat ⊕ (Int32 ⊕ Unit)) with
      | .inl a2 => .inl (nI a2, nI (x + 1))
      | .inr r => .inr r) := by
      unfold m_60_b5 flq
      rw [v_kd hv, o_g_t, c_118 hn h.1, o_b1_s, q_leF (by omega) hx, s_331 (by omega), o_b1_s, h.2.1, i_add, q_eq (by omega) (by omega), c_90 hv hW h (by omega) hh hh2, o_b1_s, q_bz, q_e0 hm, i_add, o_b1_s, o_b1_s, o_b1_s]
      by_cases c1 : pc x = r + 1
      · by_cases c2 : (tws V (I 60) hav x).2 = 1
        · rw [if_pos c1, if_pos c2, if_pos (show (decide (pc x = r + 1) && decide ((tws V (I 60) hav x).2 = 1)) = true by simp [c1, c2])]
          by_cases hm2 : m = 0
          · rw [if_pos hm2, if_pos hm2]
          · obtain ⟨m2, rfl⟩ : ∃ m2, m = m2 + 1 := ⟨m - 1, by omega⟩
            rw [if_neg hm2, if_neg hm2, i_dec]
            rfl
        · rw [if_pos c1, if_neg c2, if_neg (show ¬ (decide (pc x = r + 1) && decide ((tws V (I 60) hav x).2 = 1)) = true by simp [c2])]
      · rw [if_neg c1, if_neg (show ¬ (decide (pc x = r + 1) && decide ((tws V (I 60) hav x).2 = 1)) = true by simp [c1])]
    refine ⟨fun a2 e => ⟨?_, ?_⟩, fun r e => ?_⟩
    · split at e
      · split at e
        · cases e
        · cases e
          omega
      · cases e
        omega
    · show m_60_b5 59 v I (Rc t) (Gc L) (nI m) (nI x) = _
      rw [key, e]
    · show m_60_b5 59 v I (Rc t) (Gc L) (nI m) (nI x) = _
      rw [key, e]
  · intro m hm
    show m_60_b5 59 v I (Rc t) (Gc L) (nI m) (nI (2 ^ n)) = _
    unfold m_60_b5
    rw [v_kd hv, o_g_t, c_118 hn h.1, o_b1_s, q_leT (by omega) (Nat.le_refl _)]
theorem c_92 {I : ai_I} {t v n r hav : Nat} {L : ai_G} {V : Nat → Int32} (hv : v ∈ VC) (hW : WF n r V) (h : CS I v n r V) (hh : I 59 1 = nI hav) (hh2 : hav < 2 ^ n) : m_61 59 v I (Rc t) (Gc L) = some (nI (cnt (flq V (I 60) hav r) n)) := by
  have hn := hW.2.1
  have hr := hW.2.2.2.1
  have h8 := p2_le hn
  unfold m_61
  refine lp_cnt (flq V (I 60) hav r) (2 ^ n) h8 ?_ ?_ rfl
  · intro x a hx ha
    have hpc := pc_le x
    show m_61_b4 59 v I (Rc t) (Gc L) (nI a) (nI x) = _
    unfold m_61_b4 flq
    rw [v_kd hv, o_g_t, c_118 hn h.1, o_b1_s, q_leF (by omega) hx, s_331 (by omega), o_b1_s, h.2.1, i_add, q_eq (by omega) (by omega), c_90 hv hW h (by omega) hh hh2, o_b1_s, c_182, o_b1_s, i_add]
    by_cases c1 : pc x = r + 1
    · by_cases c2 : (tws V (I 60) hav x).2 = 1
      · rw [if_pos c1, bz_t c2, i_add, o_b1_s, o_b1_s, if_pos (show (decide (pc x = r + 1) && decide ((tws V (I 60) hav x).2 = 1)) = true by simp [c1, c2])]
      · rw [if_pos c1, bz_f c2, i_add, o_b1_s, o_b1_s, if_neg (show ¬ (decide (pc x = r + 1) && decide ((tws V (I 60) hav x).2 = 1)) = true by simp [c2])]
        rfl
    · rw [if_neg c1, o_b1_s, if_neg (show ¬ (decide (pc x = r + 1) && decide ((tws V (I 60) hav x).2 = 1)) = true by simp [c1])]
  · intro a ha
    show m_61_b4 59 v I (Rc t) (Gc L) (nI a) (nI (2 ^ n)) = _
    unfold m_61_b4
    rw [v_kd hv, o_g_t, c_118 hn h.1, o_b1_s, q_leT (by omega) (Nat.le_refl _)]
