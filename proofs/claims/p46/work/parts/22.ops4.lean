/-! Out of whole's part 22.ops4, by wip/p46/extract.py. -/
theorem and_bit_le (a b i : Nat) : (a &&& b) / 2 ^ i % 2 ≤ a / 2 ^ i % 2 := by
  have h := Nat.testBit_and a b i
  rw [Nat.testBit_eq_decide_div_mod_eq, Nat.testBit_eq_decide_div_mod_eq] at h
  by_cases h1 : a / 2 ^ i % 2 = 1
  · omega
  · rw [decide_eq_false h1, Bool.false_and] at h
    have h2 := of_decide_eq_false h
    omega
theorem pc_and_le (a b : Nat) : pc (a &&& b) ≤ pc a := by
  have h0 : (a &&& b) % 2 ≤ a % 2 := by
    have := and_bit_le a b 0
    simpa using this
  have h1 : (a &&& b) / 2 % 2 ≤ a / 2 % 2 := and_bit_le a b 1
  have h2 : (a &&& b) / 4 % 2 ≤ a / 4 % 2 := and_bit_le a b 2
  have h3 : (a &&& b) / 8 % 2 ≤ a / 8 % 2 := and_bit_le a b 3
  have h4 : (a &&& b) / 16 % 2 ≤ a / 16 % 2 := and_bit_le a b 4
  have h5 : (a &&& b) / 32 % 2 ≤ a / 32 % 2 := and_bit_le a b 5
  have h6 : (a &&& b) / 64 % 2 ≤ a / 64 % 2 := and_bit_le a b 6
  have h7 : (a &&& b) / 128 % 2 ≤ a / 128 % 2 := and_bit_le a b 7
  unfold pc
  omega
theorem rk_le_pc (V : Nat → Int32) (set : Nat) : rk V set ≤ pc set := fd_P (fun a => a ≤ pc set) (Nat.zero_le _) (fun x hx a ha => by
  have h2 := pc_and_le set x
  rw [Nat.and_comm] at h2
  show max a (pc (x &&& set)) ≤ pc set
  omega)
