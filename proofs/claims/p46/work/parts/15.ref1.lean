/-! Out of whole's part 15.ref1, by wip/p46/extract.py. -/
/-- none -/
abbrev NO : Int32 := -2147483648
/-- the values of a shelf of the reference's file -/
def FV (I : ai_I) (s : Nat) : Nat → Int32 := fun k => I 76 (258 * s + 2 + k)
theorem s_331_all : ∀ a, a < 256 → m_115 (nI a) = some (nI (pc a)) := by decide +kernel
theorem s_331 {a : Nat} (ha : a < 256) : m_115 (nI a) = some (nI (pc a)) := s_331_all a ha
theorem pc_le (a : Nat) : pc a ≤ 8 := by
  unfold pc
  omega
/-- the bases, rising -/
def BL (V : Nat → Int32) : List Nat := (List.range 256).filter (fun k => decide (V k ≠ NO))
theorem fd_len (p : Nat → Bool) : ∀ (l : List Nat) (a : Nat), fd (fun k a => if p k = true then a + 1 else a) l a = a + (l.filter p).length
  | [], a => rfl
  | x :: l, a => by
    unfold fd
    rw [fd_len p l]
    by_cases h : p x = true
    · rw [if_pos h, List.filter_cons_of_pos h, List.length_cons]
      omega
    · rw [if_neg h, List.filter_cons_of_neg h]
/-- the rank of a set: the most that a base has of it -/
def rk (V : Nat → Int32) (set : Nat) : Nat := fd (fun k a => max a (pc (k &&& set))) (BL V) 0
theorem rk_le (V : Nat → Int32) (set : Nat) : rk V set ≤ 8 := fd_P (fun a => a ≤ 8) (by omega) (fun x _ a h => by
  have := pc_le (x &&& set)
  show max a (pc (x &&& set)) ≤ 8
  omega)
