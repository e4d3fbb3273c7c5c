/-! Out of whole's part 41.span, by wip/p46/extract.py. -/
def spq (V : Nat → Int32) (n r x : Nat) : Bool := pFz V (r - 1) x && decide (cnt (flq V (fun e => V (x ||| 2 ^ e)) (hvs V x n) r) n = 0)
def fln (p : Nat → Bool) (k : Nat) : Nat := ((List.range k).filter p).length
theorem fln_succ (p : Nat → Bool) (k : Nat) : fln p (k + 1) = if p k = true then fln p k + 1 else fln p k := by
  unfold fln
  rw [List.range_succ, List.filter_append, List.length_append]
  by_cases h : p k = true
  · rw [if_pos h, List.filter_cons_of_pos h]
    rfl
  · rw [if_neg h, List.filter_cons_of_neg h]
    rfl
theorem fln_le (p : Nat → Bool) (k : Nat) : fln p k ≤ k := by
  have h := List.length_filter_le p (List.range k)
  rw [List.length_range] at h
  exact h
theorem pFz_iff {V : Nat → Int32} {n r x : Nat} (hW : WF n r V) (hx : x < 2 ^ n) (h : pc x = r - 1) : pFz V (r - 1) x = true ↔ ¬ hvs V x n = 0 := by
  have h1 := hW.2.2.1
  rw [← hvs_rk hW hx (by omega)]
  unfold pFz
  rw [Bool.and_eq_true, decide_eq_true_iff, decide_eq_true_iff]
  exact ⟨fun h2 => h2.2, fun h2 => ⟨h, h2⟩⟩
