/-! Out of whole's part 21.ops3, by wip/p46/extract.py. -/
theorem up_eq {α : Type} {f : Nat → α} {a : Nat} {x : α} : va_up f a x a = x := by
  unfold va_up
  rw [if_pos rfl]
theorem up_ne {α : Type} {f : Nat → α} {a b : Nat} {x : α} (h : ¬ b = a) : va_up f a x b = f b := by
  unfold va_up
  rw [if_neg h]
theorem g_3 {i : Nat} {L : ai_G} (hi : i < 4) : o_in (Gc L) 15 3 (nI i) = true := gi (n := 4) rfl rfl hi (by decide)
theorem r_3 {t i : Nat} (hi : i < 4) : Rc t 3 i = 6 + 4 * i := by
  match i, hi with
  | 0, _ => rfl
  | 1, _ => rfl
  | 2, _ => rfl
  | 3, _ => rfl
theorem c_99 {I : ai_I} {t : Nat} {L : ai_G} (h : ST1 I) : m_68 2 I (Rc t) (Gc L) = some (nI ((((BL (FV I 0)).length + (BL (FV I 1)).length) + (BL (FV I 2)).length) + (BL (FV I 3)).length)) := by
  unfold m_68
  refine lp_fd_s1 (fun k a => (nI a, nI k)) (fun k a => a + (BL (FV I k)).length) (fun a => nI a) (fun _ _ => True) 4 0 ?_ ?_ trivial (by decide) ?_
  · intro k a hk _
    refine ⟨trivial, ?_⟩
    show m_68_b4 2 I (Rc t) (Gc L) (nI a) (nI k) = _
    obtain ⟨n, r, hW, hC, -, -⟩ := h k hk
    unfold m_68_b4
    rw [q_leF (by decide) hk, r_2_0, g_3 hk, o_g_t, i_cl (by omega), r_3 hk, v_kd (vc_s hk), o_g_t, hC.2.2.1, i_add, o_b1_s, i_add, o_b1_s]
  · intro a _
    show m_68_b4 2 I (Rc t) (Gc L) (nI a) (nI 4) = _
    unfold m_68_b4
    rw [q_leT (by decide) (Nat.le_refl _)]
  · show some (nI (fd (fun k a => a + (BL (FV I k)).length) [0, 1, 2, 3] 0)) = _
    unfold fd fd fd fd fd
    rw [Nat.zero_add]
