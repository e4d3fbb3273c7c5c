/-! Out of whole's part 44.share, by wip/p46/extract.py. -/
theorem rk_up (V : Nat → Int32) {set e : Nat} (hs : set < 256) (he : e < 8) : rk V set ≤ rk V (set ||| 2 ^ e) := by
  obtain ⟨f1, f2, f3⟩ := fdm (fun k => pc (k &&& set)) (BL V) 0
  obtain ⟨g1, g2, g3⟩ := fdm (fun k => pc (k &&& (set ||| 2 ^ e))) (BL V) 0
  show fd (fun k a => max a (pc (k &&& set))) (BL V) 0 ≤ fd (fun k a => max a (pc (k &&& (set ||| 2 ^ e)))) (BL V) 0
  rcases f3 with f3 | ⟨x, hx, f3⟩
  · rw [f3]
    exact Nat.zero_le _
  · rw [← f3]
    refine Nat.le_trans ?_ (g2 x hx)
    have e1 : x &&& set = (x &&& (set ||| 2 ^ e)) &&& set := by
      rw [Nat.and_assoc, or_and_all set hs e he]
    show pc (x &&& set) ≤ pc (x &&& (set ||| 2 ^ e))
    rw [e1]
    exact pc_and_le _ _
