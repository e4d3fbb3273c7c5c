/-! Out of whole's part 54.near, by wip/p46/extract.py. -/
abbrev nb (a b : Nat) : Prop := ¬ a = b ∧ pc (sd a b) = 1
theorem bit_split (a b i : Nat) : a / 2 ^ i % 2 = (a &&& b) / 2 ^ i % 2 + sd a b / 2 ^ i % 2 := by
  have h1 := Nat.testBit_and a b i
  have h2 := sd_bit a b i
  rw [Nat.testBit_eq_decide_div_mod_eq, Nat.testBit_eq_decide_div_mod_eq, Nat.testBit_eq_decide_div_mod_eq] at h1
  rw [Nat.testBit_eq_decide_div_mod_eq, Nat.testBit_eq_decide_div_mod_eq, Nat.testBit_eq_decide_div_mod_eq] at h2
  by_cases c1 : a / 2 ^ i % 2 = 1
  · by_cases c2 : b / 2 ^ i % 2 = 1
    · rw [decide_eq_true c1, decide_eq_true c2] at h1 h2
      have h3 := of_decide_eq_true h1
      have h4 := of_decide_eq_false h2
      omega
    · rw [decide_eq_true c1, decide_eq_false c2] at h1 h2
      have h3 := of_decide_eq_false h1
      have h4 := of_decide_eq_true h2
      omega
  · rw [decide_eq_false c1, Bool.false_and] at h1 h2
    have h3 := of_decide_eq_false h1
    have h4 := of_decide_eq_false h2
    omega
theorem pc_split (a b : Nat) : pc a = pc (a &&& b) + pc (sd a b) := by
  have h0 := bit_split a b 0
  have h1 : a / 2 % 2 = (a &&& b) / 2 % 2 + sd a b / 2 % 2 := bit_split a b 1
  have h2 : a / 4 % 2 = (a &&& b) / 4 % 2 + sd a b / 4 % 2 := bit_split a b 2
  have h3 : a / 8 % 2 = (a &&& b) / 8 % 2 + sd a b / 8 % 2 := bit_split a b 3
  have h4 : a / 16 % 2 = (a &&& b) / 16 % 2 + sd a b / 16 % 2 := bit_split a b 4
  have h5 : a / 32 % 2 = (a &&& b) / 32 % 2 + sd a b / 32 % 2 := bit_split a b 5
  have h6 : a / 64 % 2 = (a &&& b) / 64 % 2 + sd a b / 64 % 2 := bit_split a b 6
  have h7 : a / 128 % 2 = (a &&& b) / 128 % 2 + sd a b / 128 % 2 := bit_split a b 7
  rw [Nat.pow_zero, Nat.div_one, Nat.div_one, Nat.div_one] at h0
  unfold pc
  rw [h0, h1, h2, h3, h4, h5, h6, h7]
  ac_rfl
theorem pc_1 : ∀ x, x < 256 → pc x = 1 → ∃ i, i < 8 ∧ x = 2 ^ i := by decide +kernel
theorem xor_sds (a b : Nat) : a ^^^ (sd a b ||| sd b a) = b := by
  apply Nat.eq_of_testBit_eq
  intro i
  rw [Nat.testBit_xor, Nat.testBit_or, sd_bit, sd_bit]
  cases a.testBit i <;> cases b.testBit i <;> rfl
theorem tb_2 (i j : Nat) : (2 ^ i).testBit j = decide (i = j) := by
  by_cases h : i = j
  · rw [h, Nat.testBit_two_pow_self, decide_eq_true rfl]
  · rw [Nat.testBit_two_pow_of_ne h, decide_eq_false h]
theorem nb_ij {a b n : Nat} (hn : n ≤ 8) (ha : a < 2 ^ n) (hb : b < 2 ^ n) (hp : pc a = pc b) (h : nb a b) : ∃ i j, i < n ∧ j < n ∧ a.testBit i = true ∧ a.testBit j = false ∧ b = a ^^^ (2 ^ i ||| 2 ^ j) := by
  have h8 := p2_le hn
  have e1 := pc_split a b
  have e2 := pc_split b a
  rw [Nat.and_comm b a] at e2
  have hb1 : pc (sd b a) = 1 := by have := h.2; omega
  obtain ⟨i, hi, ei⟩ := pc_1 (sd a b) (sd_lt (by omega)) h.2
  obtain ⟨j, hj, ej⟩ := pc_1 (sd b a) (sd_lt (by omega)) hb1
  have ti : (sd a b).testBit i = true := by rw [ei, Nat.testBit_two_pow_self]
  have tj : (sd b a).testBit j = true := by rw [ej, Nat.testBit_two_pow_self]
  rw [sd_bit, Bool.and_eq_true, Bool.not_eq_true'] at ti tj
  refine ⟨i, j, ?_, ?_, ti.1, tj.2, ?_⟩
  · apply Nat.lt_of_not_le
    intro h9
    have := tb_hi ha h9
    rw [ti.1] at this
    cases this
  · apply Nat.lt_of_not_le
    intro h9
    have := tb_hi hb h9
    rw [tj.1] at this
    cases this
  · rw [← ei, ← ej]
    exact (xor_sds a b).symm
theorem ij_nb {a i j : Nat} (hi : i < 8) (h1 : a.testBit i = true) (h2 : a.testBit j = false) : nb a (a ^^^ (2 ^ i ||| 2 ^ j)) := by
  have hij : ¬ i = j := fun h => by rw [h, h2] at h1; cases h1
  have e : sd a (a ^^^ (2 ^ i ||| 2 ^ j)) = 2 ^ i := by
    apply Nat.eq_of_testBit_eq
    intro q
    rw [sd_bit, Nat.testBit_xor, Nat.testBit_or, tb_2, tb_2]
    by_cases c1 : i = q
    · subst c1
      rw [h1, decide_eq_true rfl]
      rfl
    · rw [decide_eq_false c1]
      by_cases c2 : j = q
      · subst c2
        rw [h2]
        rfl
      · rw [decide_eq_false c2]
        cases a.testBit q <;> rfl
  refine ⟨fun h => ?_, by rw [e]; exact pc_2 i hi⟩
  have h3 : (a ^^^ (2 ^ i ||| 2 ^ j)).testBit i = a.testBit i := by rw [← h]
  rw [Nat.testBit_xor, Nat.testBit_or, tb_2, h1, decide_eq_true rfl] at h3
  cases h3
/-- what is best of the neighbours looked at (D) -/
def NV (V S : Nat → Int32) (a : Nat) (D : Nat → Prop) (b : Nat) : Prop := (b = a ∧ ∀ c, D c → c ∈ BL V → S c ≤ S a) ∨ (b ∈ BL V ∧ nb a b ∧ S a < S b ∧ ∀ c, D c → c ∈ BL V → S c ≤ S b ∧ (c < b → S c < S b))
/-- the next base of a greedy way -/
def NX (V S : Nat → Int32) (a : Nat) (o : Option Nat) : Prop := match o with
  | none => ∀ c, c ∈ BL V → nb a c → S c ≤ S a
  | some b => b ∈ BL V ∧ nb a b ∧ S a < S b ∧ ∀ c, c ∈ BL V → nb a c → S c ≤ S b ∧ (c < b → S c < S b)
theorem NX_one {V S : Nat → Int32} {a : Nat} : ∀ {o p : Option Nat}, NX V S a o → NX V S a p → o = p
  | none, none, _, _ => rfl
  | none, some q, h1, h2 => absurd (h1 q h2.1 h2.2.1) (Int32.not_le.2 h2.2.2.1)
  | some b, none, h1, h2 => absurd (h2 b h1.1 h1.2.1) (Int32.not_le.2 h1.2.2.1)
  | some b, some q, h1, h2 => by
    obtain ⟨a1, a2, a3, a4⟩ := h1
    obtain ⟨b1, b2, b3, b4⟩ := h2
    have e1 := a4 q b1 b2
    have e2 := b4 b a1 a2
    have e : b = q := by
      by_cases c : b < q
      · exact absurd e1.1 (Int32.not_le.2 (e2.2 c))
      · by_cases c2 : q < b
        · exact absurd e2.1 (Int32.not_le.2 (e1.2 c2))
        · omega
    rw [e]
/-- a greedy way of k steps -/
def grd (V S : Nat → Int32) : Nat → Nat → Nat → Prop
  | 0, a, b => a = b ∧ NX V S a none
  | k + 1, a, b => ∃ c, NX V S a (some c) ∧ grd V S k c b
theorem grd_one {V S : Nat → Int32} : ∀ (k l a b c : Nat), grd V S k a b → grd V S l a c → k = l ∧ b = c
  | 0, 0, a, b, c, h1, h2 => ⟨rfl, h1.1.symm.trans h2.1⟩
  | 0, l + 1, a, b, c, h1, ⟨d, h2, _⟩ => by cases NX_one h1.2 h2
  | k + 1, 0, a, b, c, ⟨d, h1, _⟩, h2 => by cases NX_one h1 h2.2
  | k + 1, l + 1, a, b, c, ⟨d, h1, g1⟩, ⟨e, h2, g2⟩ => by
    cases NX_one h1 h2
    obtain ⟨e1, e2⟩ := grd_one k l d b c g1 g2
    exact ⟨by rw [e1], e2⟩
/-- how many bases have a greater sum -/
def gtc (V S : Nat → Int32) (a : Nat) : Nat := ((BL V).filter (fun c => decide (S a < S c))).length
theorem filter_lt {p q : Nat → Bool} : ∀ {l : List Nat} {x : Nat}, x ∈ l → p x = false → q x = true → (∀ y ∈ l, p y = true → q y = true) → (l.filter p).length < (l.filter q).length
  | [], x, h, _, _, _ => absurd h (List.not_mem_nil)
  | y :: l, x, h, h1, h2, h3 => by
    have h4 := filter_le p q l (fun z hz => h3 z (List.mem_cons_of_mem _ hz))
    rcases List.mem_cons.1 h with rfl | h
    · rw [List.filter_cons_of_neg (by rw [h1]; decide), List.filter_cons_of_pos h2, List.length_cons]
      omega
    · have ih := filter_lt h h1 h2 (fun z hz => h3 z (List.mem_cons_of_mem _ hz))
      by_cases c : p y = true
      · rw [List.filter_cons_of_pos c, List.filter_cons_of_pos (h3 y (List.mem_cons_self ..) c), List.length_cons, List.length_cons]
        omega
      · rw [List.filter_cons_of_neg c]
        by_cases c2 : q y = true
        · rw [List.filter_cons_of_pos c2, List.length_cons]
          omega
        · rw [List.filter_cons_of_neg c2]
          exact ih
theorem gtc_lt {V S : Nat → Int32} {a b : Nat} (h : NX V S a (some b)) : gtc V S b < gtc V S a := filter_lt h.1 (decide_eq_false Int32.lt_irrefl) (decide_eq_true h.2.2.1) (fun y _ hy => decide_eq_true (Int32.lt_trans h.2.2.1 (of_decide_eq_true hy)))
theorem gtc_le {V S : Nat → Int32} {a : Nat} (h : a ∈ BL V) : gtc V S a + 1 ≤ (BL V).length := by
  have h2 := filter_lt (p := fun c => decide (S a < S c)) (q := fun _ => true) h (decide_eq_false Int32.lt_irrefl) rfl (fun _ _ _ => rfl)
  rw [List.filter_eq_self.2 (fun _ _ => rfl)] at h2
  exact h2
theorem NV_step {V S T : Nat → Int32} {a b c : Nat} {D : Nat → Prop} (hT : ∀ x, x < 256 → T x = if V x ≠ NO then S x else NO) (hS : ∀ x, x ∈ BL V → ¬ S x ≤ NO) (ha : a ∈ BL V) (hc : c < 256) (hn : nb a c) (h : NV V S a D b) : NV V S a (fun x => D x ∨ x = c) (if T b < T c then c else if T c = T b ∧ ¬ b = a ∧ ¬ b ≤ c then c else b) := by
  have hb : b ∈ BL V := by
    rcases h with ⟨rfl, -⟩ | ⟨h, -⟩
    · exact ha
    · exact h
  have hb2 := BL_mem.1 hb
  have eb : T b = S b := by rw [hT b hb2.1, if_pos hb2.2]
  rw [eb]
  by_cases hV : V c ≠ NO
  · have hcB : c ∈ BL V := BL_mem.2 ⟨hc, hV⟩
    rw [hT c hc, if_pos hV]
    by_cases c1 : S b < S c
    · rw [if_pos c1]
      have hac : S a < S c := by
        rcases h with ⟨rfl, -⟩ | ⟨-, -, h, -⟩
        · exact c1
        · exact Int32.lt_trans h c1
      refine Or.inr ⟨hcB, hn, hac, fun x hx hxB => ?_⟩
      rcases hx with hx | rfl
      · have hxb : S x ≤ S b := by
          rcases h with ⟨rfl, h⟩ | ⟨-, -, -, h⟩
          · exact h x hx hxB
          · exact (h x hx hxB).1
        have := Int32.lt_of_le_of_lt hxb c1
        exact ⟨Int32.le_of_lt this, fun _ => this⟩
      · exact ⟨Int32.le_refl _, fun h9 => absurd h9 (Nat.lt_irrefl _)⟩
    · rw [if_neg c1]
      have c1' := Int32.not_lt.1 c1
      by_cases c2 : S c = S b ∧ ¬ b = a ∧ ¬ b ≤ c
      · rw [if_pos c2]
        obtain ⟨d1, d2, d3⟩ := c2
        rcases h with ⟨h, -⟩ | ⟨-, -, h1, h2⟩
        · exact absurd h d2
        · refine Or.inr ⟨hcB, hn, by rw [d1]; exact h1, fun x hx hxB => ?_⟩
          rw [d1]
          rcases hx with hx | rfl
          · exact ⟨(h2 x hx hxB).1, fun h9 => (h2 x hx hxB).2 (by omega)⟩
          · exact ⟨by rw [d1]; exact Int32.le_refl _, fun h9 => absurd h9 (Nat.lt_irrefl _)⟩
      · rw [if_neg c2]
        rcases h with ⟨rfl, h1⟩ | ⟨h0, h00, h1, h2⟩
        · refine Or.inl ⟨rfl, fun x hx hxB => ?_⟩
          rcases hx with hx | rfl
          · exact h1 x hx hxB
          · exact c1'
        · refine Or.inr ⟨h0, h00, h1, fun x hx hxB => ?_⟩
          rcases hx with hx | rfl
          · exact h2 x hx hxB
          · refine ⟨c1', fun h9 => ?_⟩
            by_cases e : S x = S b
            · exfalso
              refine c2 ⟨e, fun h8 => ?_, by omega⟩
              rw [h8] at h1
              exact Int32.lt_irrefl h1
            · rcases Int32.lt_or_eq_of_le c1' with e2 | e2
              · exact e2
              · exact absurd e2 e
  · have hV2 := Decidable.of_not_not hV
    rw [hT c hc, if_neg hV, if_neg (Int32.not_lt.2 (Int32.minValue_le _)), if_neg (fun h9 => hS b hb (by rw [← h9.1]; exact Int32.le_refl _))]
    rcases h with ⟨rfl, h1⟩ | ⟨h0, h00, h1, h2⟩
    · refine Or.inl ⟨rfl, fun x hx hxB => ?_⟩
      rcases hx with hx | rfl
      · exact h1 x hx hxB
      · exact absurd hV2 (BL_mem.1 hxB).2
    · refine Or.inr ⟨h0, h00, h1, fun x hx hxB => ?_⟩
      rcases hx with hx | rfl
      · exact h2 x hx hxB
      · exact absurd hV2 (BL_mem.1 hxB).2
theorem NV_sub {V S : Nat → Int32} {a b : Nat} {D E : Nat → Prop} (h : NV V S a D b) (hE : ∀ x, E x → D x) : NV V S a E b := by
  rcases h with ⟨h0, h1⟩ | ⟨h0, h00, h1, h2⟩
  · exact Or.inl ⟨h0, fun c hc => h1 c (hE c hc)⟩
  · exact Or.inr ⟨h0, h00, h1, fun c hc => h2 c (hE c hc)⟩
theorem NV_NX {V S : Nat → Int32} {a b : Nat} {D : Nat → Prop} (h : NV V S a D b) (hD : ∀ c, c ∈ BL V → nb a c → D c) : (b = a ∧ NX V S a none) ∨ (¬ b = a ∧ NX V S a (some b)) := by
  rcases h with ⟨h0, h1⟩ | ⟨h0, h00, h1, h2⟩
  · exact Or.inl ⟨h0, fun c hc hn => h1 c (hD c hc hn) hc⟩
  · exact Or.inr ⟨fun h9 => h00.1 h9.symm, h0, h00, h1, fun c hc hn => h2 c (hD c hc hn) hc⟩
