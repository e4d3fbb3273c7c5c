/-! Out of whole's part 64.wide, by wip/p46/extract.py. -/
theorem mx_l (a b : Int32) : a ≤ mx a b := by
  unfold mx
  split
  · rename_i h
    exact h
  · exact Int32.le_refl _
theorem mx_r (a b : Int32) : b ≤ mx a b := by
  unfold mx
  split
  · exact Int32.le_refl _
  · rename_i h
    exact Int32.le_of_lt (Int32.not_le.1 h)
