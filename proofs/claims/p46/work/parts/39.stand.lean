/-! Out of whole's part 39.stand, by wip/p46/extract.py. -/
theorem hvs_tb (V : Nat → Int32) (set e : Nat) : ∀ k, (hvs V set k).testBit e = (decide (e < k) && (!set.testBit e && decide (V (set ||| 2 ^ e) ≠ NO)))
  | 0 => by
    show (0 : Nat).testBit e = _
    rw [Nat.zero_testBit]
    rfl
  | k + 1 => by
    have ih := hvs_tb V set e k
    rw [hvs_succ]
    unfold hvo
    by_cases hek : e = k
    · subst hek
      rw [show decide (e < e) = false from decide_eq_false (by omega), Bool.false_and] at ih
      rw [show decide (e < e + 1) = true from decide_eq_true (by omega), Bool.true_and]
      by_cases c1 : set.testBit e = true
      · rw [if_pos c1, ih, c1]
        rfl
      · rw [if_neg c1]
        have c3 : set.testBit e = false := by
          cases h : set.testBit e
          · rfl
          · exact absurd h c1
        by_cases c2 : V (set ||| 2 ^ e) ≠ NO
        · rw [if_pos c2, Nat.testBit_or, ih, Nat.testBit_two_pow_self, c3, decide_eq_true c2]
          rfl
        · rw [if_neg c2, ih, c3, decide_eq_false c2]
          rfl
    · have e1 : decide (e < k + 1) = decide (e < k) := by
        by_cases h : e < k
        · rw [decide_eq_true h, decide_eq_true (by omega)]
        · rw [decide_eq_false h, decide_eq_false (by omega)]
      rw [e1]
      split
      · exact ih
      · split
        · rw [Nat.testBit_or, Nat.testBit_two_pow_of_ne (fun h => hek h.symm), Bool.or_false]
          exact ih
        · exact ih
theorem tws_conh {V num num2 : Nat → Int32} {hav x : Nat} (hN : ∀ e, e < 8 → hav.testBit e = true → num e = num2 e) : tws V num hav x = tws V num2 hav x := fd_congr (fun e he a => by
  have he8 := List.mem_range.1 he
  unfold twc
  by_cases c : (x &&& hav).testBit e = true
  · have c2 := c
    rw [Nat.testBit_and, Bool.and_eq_true] at c2
    rw [if_pos c, if_pos c, hN e he8 c2.2]
  · rw [if_neg c, if_neg c])
theorem flq_conh {V num num2 : Nat → Int32} {hav r n : Nat} (hN : ∀ e, e < 8 → hav.testBit e = true → num e = num2 e) : cnt (flq V num hav r) n = cnt (flq V num2 hav r) n := by
  have e : flq V num hav r = flq V num2 hav r := by
    funext x
    unfold flq
    rw [tws_conh hN]
  rw [e]
