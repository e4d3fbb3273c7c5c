/-! Out of whole's part 24.ops5, by wip/p46/extract.py. -/
theorem c_120' {I : ai_I} {v n : Nat} (hn : n ≤ 8) (h1 : 1 ≤ n) (h : I v 0 = nI n) (x : Int32) : m_87 v x I = some (bz (nI 0 ≤ x ∧ x ≤ nI (n - 1))) := by
  rw [c_120, h]
  refine congrArg some (bz_c ?_)
  rw [i_ltp h1 (by omega)]
  exact Iff.rfl
