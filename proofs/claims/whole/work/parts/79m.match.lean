/-! Makers: match, in the reference. -/
theorem pc_x : ∀ j, j < 256 → ∀ e, e < 8 → j.testBit e = true → pc (j ^^^ 2 ^ e) + 1 = pc j := by decide +kernel
theorem has_bit {j n : Nat} (hj : 0 < j) (hn : j < 2 ^ n) : ∃ e, e < n ∧ j.testBit e = true := Classical.byContradiction (fun hc => by
  have h0 : j = 0 := tb_ext (fun x => by
    rw [Nat.zero_testBit]
    constructor
    · intro h
      by_cases hx : x < n
      · exact absurd ⟨x, hx, h⟩ hc
      · rw [tb_hi hn (by omega)] at h
        cases h
    · intro h
      cases h)
  omega)
theorem bst_b {B : Nat → Int32} {w : Nat → Nat → Int32} {n r : Nat} (hn : n ≤ 8) (hB : BST B w n r (2 ^ n)) (hw : ∀ q e, q < r → e < n → -999 ≤ (w q e).toInt ∧ (w q e).toInt ≤ 999) : ∀ j, j < 2 ^ n → pc j ≤ r → -(999 * (pc j : Int)) ≤ (B j).toInt ∧ (B j).toInt ≤ 999 * (pc j : Int) := by
  intro j
  induction j using Nat.strongRecOn with
  | _ j ih =>
    intro hj hp
    have h8 := p2_le hn
    by_cases h0 : j = 0
    · rw [h0, hB.1, show pc 0 = 0 by decide]
      exact ⟨by decide, by decide⟩
    · rcases hB.2 j (by omega) hj hp with ⟨-, h2⟩ | ⟨⟨e, e1, e2, e3⟩, -⟩
      · obtain ⟨e, e1, e2⟩ := has_bit (by omega) hj
        exact absurd ⟨e, e1, e2, rfl⟩ (h2 _)
      · have hx := xr_all j (by omega) e (by omega) e2
        have hpx := pc_x j (by omega) e (by omega) e2
        have hi := ih _ hx.1 (by omega) (by omega)
        have hwe := hw (pc j - 1) e (by omega) e1
        have hp8 := pc_le j
        rw [e3, Int32.toInt_add, Int.bmod_eq_of_le (by omega) (by omega)]
        omega
theorem bst_no {B : Nat → Int32} {w : Nat → Nat → Int32} {n r j : Nat} (hn : n ≤ 8) (hB : BST B w n r (2 ^ n)) (hw : ∀ q e, q < r → e < n → -999 ≤ (w q e).toInt ∧ (w q e).toInt ≤ 999) (hj : j < 2 ^ n) (hp : pc j ≤ r) : B j ≠ NO := fun h => by
  have h1 := bst_b hn hB hw j hj hp
  have h8 := pc_le j
  rw [h, show NO.toInt = -2147483648 by decide] at h1
  omega
/-- where the reference stands within row q, with sets from m on behind it -/
def RWd (B : Nat → Int32) (w : Nat → Nat → Int32) (n q m : Nat) (D : Nat → Int32) : Prop := (∀ j, j < 256 → ¬ (j < 2 ^ n ∧ pc j = q + 1) → D j = if j < 2 ^ n ∧ pc j = q ∧ j < m then B j else NO) ∧ ∀ j, j < 2 ^ n → pc j = q + 1 → MX (fun z => ∃ e, e < n ∧ j.testBit e = true ∧ m ≤ j ^^^ 2 ^ e ∧ z = B (j ^^^ 2 ^ e) + w q e) (D j)
theorem RWd_end {B D : Nat → Int32} {w : Nat → Nat → Int32} {n r q : Nat} (hn : n ≤ 8) (hB : BST B w n r (2 ^ n)) (hq : q < r) (h : RWd B w n q 0 D) : ∀ j, j < 256 → D j = if j < 2 ^ n ∧ pc j = q + 1 then B j else NO := by
  intro j hj
  by_cases c : j < 2 ^ n ∧ pc j = q + 1
  · rw [if_pos c]
    have h0 : 0 < j := by
      apply Nat.pos_of_ne_zero
      intro h0
      have h1 := c.2
      rw [h0, show pc 0 = 0 by decide] at h1
      omega
    refine MX_eq (h.2 j c.1 c.2) (hB.2 j h0 c.1 (by omega)) (fun z => ?_)
    unfold bcd
    rw [c.2, show q + 1 - 1 = q by omega]
    exact ⟨fun ⟨e, h1, h2, _, h3⟩ => ⟨e, h1, h2, h3⟩, fun ⟨e, h1, h2, h3⟩ => ⟨e, h1, h2, Nat.zero_le _, h3⟩⟩
  · rw [if_neg c, h.1 j hj c, if_neg (fun h9 => absurd h9.2.2 (Nat.not_lt_zero _))]
theorem or_x : ∀ k, k < 256 → ∀ e, e < 8 → k.testBit e = false → pc (k ||| 2 ^ e) = pc k + 1 ∧ (k ||| 2 ^ e) ^^^ 2 ^ e = k ∧ (k ||| 2 ^ e).testBit e = true := by decide +kernel
theorem x_or : ∀ j, j < 256 → ∀ e, e < 8 → j.testBit e = true → (j ^^^ 2 ^ e).testBit e = false := by decide +kernel
def RWi (B : Nat → Int32) (w : Nat → Nat → Int32) (n q k i : Nat) (D : Nat → Int32) : Prop := (∀ j, j < 256 → ¬ (j < 2 ^ n ∧ pc j = q + 1) → D j = if j < 2 ^ n ∧ pc j = q ∧ j < k + 1 then B j else NO) ∧ ∀ j, j < 2 ^ n → pc j = q + 1 → MX (fun z => (∃ e, e < n ∧ j.testBit e = true ∧ k + 1 ≤ j ^^^ 2 ^ e ∧ z = B (j ^^^ 2 ^ e) + w q e) ∨ ∃ e, e < i ∧ k.testBit e = false ∧ j = k ||| 2 ^ e ∧ z = B k + w q e) (D j)
theorem RWi_0 {B D : Nat → Int32} {w : Nat → Nat → Int32} {n q k : Nat} (h : RWd B w n q (k + 1) D) : RWi B w n q k 0 D := ⟨h.1, fun j h1 h2 => MX_cong (h.2 j h1 h2) (fun z => ⟨Or.inl, fun h => h.resolve_right (fun ⟨e, he, _⟩ => absurd he (Nat.not_lt_zero _))⟩)⟩
theorem RWi_t {B D : Nat → Int32} {w : Nat → Nat → Int32} {n q k i : Nat} (hn : n ≤ 8) (hk : k < 2 ^ n) (hi : i < n) (hp : pc k = q) (hb : k.testBit i = false) (h : RWi B w n q k i D) : RWi B w n q k (i + 1) (va_up D (k ||| 2 ^ i) (mx (D (k ||| 2 ^ i)) (B k + w q i))) := by
  have h8 := p2_le hn
  have ho := or_x k (by omega) i (by omega) hb
  have hlt : k ||| 2 ^ i < 2 ^ n := Nat.or_lt_two_pow hk (Nat.pow_lt_pow_right (by decide) hi)
  refine ⟨fun j hj hc => ?_, fun j h1 h2 => ?_⟩
  · rw [up_ne (fun e => hc (by rw [e]; exact ⟨hlt, by omega⟩))]
    exact h.1 j hj hc
  · by_cases c : j = k ||| 2 ^ i
    · subst c
      rw [up_eq]
      refine MX_cong (MX_add (h.2 _ h1 h2)) (fun z => ?_)
      constructor
      · rintro ((h3 | ⟨e, e1, e2⟩) | h3)
        · exact Or.inl h3
        · exact Or.inr ⟨e, by omega, e2⟩
        · exact Or.inr ⟨i, by omega, hb, rfl, h3⟩
      · rintro (h3 | ⟨e, e1, e2, e3, e4⟩)
        · exact Or.inl (Or.inl h3)
        · by_cases c2 : e = i
          · rw [c2] at e4
            exact Or.inr e4
          · exact Or.inl (Or.inr ⟨e, by omega, e2, e3, e4⟩)
    · rw [up_ne c]
      refine MX_cong (h.2 j h1 h2) (fun z => ?_)
      constructor
      · rintro (h3 | ⟨e, e1, e2⟩)
        · exact Or.inl h3
        · exact Or.inr ⟨e, by omega, e2⟩
      · rintro (h3 | ⟨e, e1, e2, e3, e4⟩)
        · exact Or.inl h3
        · by_cases c2 : e = i
          · rw [c2] at e3
            exact absurd e3 c
          · exact Or.inr ⟨e, by omega, e2, e3, e4⟩
theorem RWi_f {B D : Nat → Int32} {w : Nat → Nat → Int32} {n q k i : Nat} (hb : k.testBit i = true) (h : RWi B w n q k i D) : RWi B w n q k (i + 1) D := ⟨h.1, fun j h1 h2 => MX_cong (h.2 j h1 h2) (fun z => by
  constructor
  · rintro (h3 | ⟨e, e1, e2⟩)
    · exact Or.inl h3
    · exact Or.inr ⟨e, by omega, e2⟩
  · rintro (h3 | ⟨e, e1, e2, e3⟩)
    · exact Or.inl h3
    · by_cases c2 : e = i
      · rw [c2, hb] at e2
        cases e2
      · exact Or.inr ⟨e, by omega, e2, e3⟩)⟩
theorem RWi_n {B D : Nat → Int32} {w : Nat → Nat → Int32} {n q k : Nat} (hn : n ≤ 8) (hk : k < 2 ^ n) (hp : pc k = q) (h : RWi B w n q k n D) : RWd B w n q k (va_up D k NO) := by
  have h8 := p2_le hn
  refine ⟨fun j hj hc => ?_, fun j h1 h2 => ?_⟩
  · by_cases c : j = k
    · rw [c, up_eq, if_neg (fun h => absurd h.2.2 (Nat.lt_irrefl _))]
    · rw [up_ne c, h.1 j hj hc]
      by_cases c2 : j < 2 ^ n ∧ pc j = q ∧ j < k + 1
      · rw [if_pos c2, if_pos ⟨c2.1, c2.2.1, by omega⟩]
      · rw [if_neg c2, if_neg (fun h => c2 ⟨h.1, h.2.1, by omega⟩)]
  · rw [up_ne (fun e => by rw [e] at h2; omega)]
    refine MX_cong (h.2 j h1 h2) (fun z => ?_)
    constructor
    · rintro (⟨e, e1, e2, e3, e4⟩ | ⟨e, e1, e2, e3, e4⟩)
      · exact ⟨e, e1, e2, by omega, e4⟩
      · have ho := or_x k (by omega) e (by omega) e2
        exact ⟨e, e1, by rw [e3]; exact ho.2.2, by rw [e3, ho.2.1]; omega, by rw [e3, ho.2.1]; exact e4⟩
    · rintro ⟨e, e1, e2, e3, e4⟩
      by_cases c : j ^^^ 2 ^ e = k
      · have hx := xr_all j (by omega) e (by omega) e2
        have hy := x_or j (by omega) e (by omega) e2
        rw [c] at hy e4 hx
        exact Or.inr ⟨e, e1, hy, hx.2.symm, e4⟩
      · exact Or.inl ⟨e, e1, e2, by omega, e4⟩
theorem RWd_skip {B D : Nat → Int32} {w : Nat → Nat → Int32} {n q k : Nat} (hn : n ≤ 8) (hp : ¬ pc k = q) (h : RWd B w n q (k + 1) D) : RWd B w n q k D := by
  have h8 := p2_le hn
  refine ⟨fun j hj hc => ?_, fun j h1 h2 => MX_cong (h.2 j h1 h2) (fun z => ?_)⟩
  · rw [h.1 j hj hc]
    by_cases c2 : j < 2 ^ n ∧ pc j = q ∧ j < k + 1
    · rw [if_pos c2, if_pos ⟨c2.1, c2.2.1, by
        by_cases e : j = k
        · rw [e] at c2
          exact absurd c2.2.1 hp
        · omega⟩]
    · rw [if_neg c2, if_neg (fun h => c2 ⟨h.1, h.2.1, by omega⟩)]
  · constructor
    · rintro ⟨e, e1, e2, e3, e4⟩
      exact ⟨e, e1, e2, by omega, e4⟩
    · rintro ⟨e, e1, e2, e3, e4⟩
      refine ⟨e, e1, e2, ?_, e4⟩
      have hpx := pc_x j (by omega) e (by omega) e2
      by_cases c : j ^^^ 2 ^ e = k
      · rw [c] at hpx
        omega
      · omega
