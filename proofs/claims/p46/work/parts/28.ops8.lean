/-! Out of whole's part 28.ops8, by wip/p46/extract.py. -/
section
variable {I : ai_I} {t v w n r n2 r2 : Nat} {L : ai_G} {V W : Nat → Int32}
theorem c_185 (hv : v ∈ VC) (hw : w ∈ VC) (hn : n ≤ 8) (hn2 : n2 ≤ 8) (h : I v 0 = nI n) (h2 : I w 0 = nI n2) : m_114 v w I (Gc L) = some (bz (n = n2)) := by
  have a1 := vc_51 v hv
  have a2 := vc_51 w hw
  unfold m_114
  rw [if_neg (by omega), if_neg (by omega), v_kd hv, v_kd hw, o_g_t, o_g_t, h, h2, q_eq (by omega) (by omega)]
  by_cases e : n = n2
  · rw [if_pos e, bz_t e]
  · rw [if_neg e, bz_f e]
end
