/-! Out of whole's part 47.cov, by wip/p46/extract.py. -/
theorem sub_tb {a b : Nat} : a &&& b = a ↔ ∀ i, a.testBit i = true → b.testBit i = true := by
  constructor
  · intro h i hi
    rw [← h, Nat.testBit_and, Bool.and_eq_true] at hi
    exact hi.2
  · intro h
    apply Nat.eq_of_testBit_eq
    intro i
    rw [Nat.testBit_and]
    cases c : a.testBit i
    · rfl
    · rw [h i c]
      rfl
theorem BL_ix {V : Nat → Int32} {b : Nat} (h : b ∈ BL V) : ∃ p, p < (BL V).length ∧ (BL V).getD p 0 = b := by
  obtain ⟨p, hp, e⟩ := List.getElem_of_mem h
  exact ⟨p, hp, by rw [List.getD_eq_getElem?_getD, List.getElem?_eq_getElem hp, e]; rfl⟩
theorem BL_in {V : Nat → Int32} {p : Nat} (hp : p < (BL V).length) : (BL V).getD p 0 ∈ BL V := by
  rw [List.getD_eq_getElem?_getD, List.getElem?_eq_getElem hp]
  exact List.getElem_mem hp
