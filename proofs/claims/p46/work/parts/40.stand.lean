/-! Out of whole's part 40.stand, by wip/p46/extract.py. -/
theorem fdm (f : Nat → Nat) : ∀ (l : List Nat) (a : Nat), a ≤ fd (fun k a => max a (f k)) l a ∧ (∀ x ∈ l, f x ≤ fd (fun k a => max a (f k)) l a) ∧ (fd (fun k a => max a (f k)) l a = a ∨ ∃ x ∈ l, f x = fd (fun k a => max a (f k)) l a)
  | [], a => ⟨Nat.le_refl _, fun x hx => absurd hx (List.not_mem_nil), Or.inl rfl⟩
  | y :: l, a => by
    obtain ⟨h1, h2, h3⟩ := fdm f l (max a (f y))
    have e : fd (fun k a => max a (f k)) (y :: l) a = fd (fun k a => max a (f k)) l (max a (f y)) := rfl
    rw [e]
    refine ⟨Nat.le_trans (Nat.le_max_left _ _) h1, fun x hx => ?_, ?_⟩
    · rcases List.mem_cons.1 hx with rfl | hx
      · exact Nat.le_trans (Nat.le_max_right _ _) h1
      · exact h2 x hx
    · rcases h3 with h3 | ⟨x, hx, h3⟩
      · by_cases c : f y ≤ a
        · left
          rw [h3]
          omega
        · right
          refine ⟨y, List.mem_cons_self .., ?_⟩
          rw [h3]
          omega
      · exact Or.inr ⟨x, List.mem_cons_of_mem _ hx, h3⟩
theorem pc_up_all : ∀ s, s < 256 → ∀ b, b < 256 → pc (b &&& s) = pc s → pc b = pc s + 1 → ∃ e, e < 8 ∧ s.testBit e = false ∧ s ||| 2 ^ e = b := by decide +kernel
theorem or_and_all : ∀ s, s < 256 → ∀ e, e < 8 → (s ||| 2 ^ e) &&& s = s := by decide +kernel
theorem hvs_rk {V : Nat → Int32} {n r set : Nat} (hW : WF n r V) (hset : set < 2 ^ n) (hp : pc set + 1 = r) : rk V set = pc set ↔ ¬ hvs V set n = 0 := by
  have h8 := p2_le hW.2.1
  obtain ⟨w1, w2, w3, w4, w5, w6⟩ := hW
  obtain ⟨f1, f2, f3⟩ := fdm (fun k => pc (k &&& set)) (BL V) 0
  constructor
  · intro h hz
    have hb : ∃ b ∈ BL V, pc (b &&& set) = pc set := by
      rcases f3 with f3 | ⟨x, hx, f3⟩
      · have e0 : rk V set = 0 := f3
        obtain ⟨k, hk, hV⟩ := w6
        refine ⟨k, BL_mem.2 ⟨hk, hV⟩, ?_⟩
        have e1 : pc (k &&& set) ≤ rk V set := f2 k (BL_mem.2 ⟨hk, hV⟩)
        omega
      · exact ⟨x, hx, f3.trans h⟩
    obtain ⟨b, hb, e1⟩ := hb
    have hb2 := BL_mem.1 hb
    obtain ⟨hb3, hb4, -, -⟩ := w5 b hb2.1 hb2.2
    obtain ⟨e, he, e2, e3⟩ := pc_up_all set (by omega) b hb2.1 e1 (by omega)
    have hen : e < n := by
      apply Nat.lt_of_not_le
      intro hne
      have h1 := tb_hi hb3 hne
      rw [← e3, Nat.testBit_or, Nat.testBit_two_pow_self, Bool.or_true] at h1
      cases h1
    have h2 := hvs_tb V set e n
    rw [hz, Nat.zero_testBit, decide_eq_true hen, e2, e3, decide_eq_true hb2.2] at h2
    cases h2
  · intro h
    obtain ⟨e, he⟩ := Nat.exists_testBit_of_ne_zero h
    rw [hvs_tb] at he
    rw [Bool.and_eq_true, Bool.and_eq_true] at he
    obtain ⟨e1, e2, e3⟩ := he
    have e4 := of_decide_eq_true e1
    have e5 : V (set ||| 2 ^ e) ≠ NO := of_decide_eq_true e3
    have ho : set ||| 2 ^ e < 256 := bit_or_lt (by omega) (p2_lt (by omega))
    have h1 : pc ((set ||| 2 ^ e) &&& set) ≤ rk V set := f2 _ (BL_mem.2 ⟨ho, e5⟩)
    rw [or_and_all set (by omega) e (by omega)] at h1
    have h2 := rk_le_pc V set
    omega
