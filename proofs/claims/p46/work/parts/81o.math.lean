/-! Where the law of a valuation holds: a greedy way comes to the greatest, the greatest are a matroid's, spanned rows lie in the space. -/
/-- whole numbers, summed below n -/
def zm (g : Nat → Int) : Nat → Int
  | 0 => 0
  | n + 1 => zm g n + g n
theorem zm_add {g h : Nat → Int} : ∀ n, zm (fun e => g e + h e) n = zm g n + zm h n
  | 0 => rfl
  | n + 1 => by
    show zm (fun e => g e + h e) n + (g n + h n) = (zm g n + g n) + (zm h n + h n)
    rw [zm_add n]
    omega
theorem zm_cong {g h : Nat → Int} : ∀ n, (∀ e, e < n → g e = h e) → zm g n = zm h n
  | 0, _ => rfl
  | n + 1, e => by
    show zm g n + g n = zm h n + h n
    rw [zm_cong n (fun k hk => e k (by omega)), e n (by omega)]
/-- what set x weighs at e -/
def zw (p : Nat → Int32) (x e : Nat) : Int := if x.testBit e = true then (p e).toInt else 0
def ppb (p : Nat → Int32) : Prop := ∀ e, e < 8 → -1000 ≤ p e ∧ p e ≤ 1000
theorem prs_z {p : Nat → Int32} (h : ppb p) (x : Nat) : (prs p x).toInt = zm (zw p x) 8 := by
  have h2 := fd_idx (f := fun e a => if x.testBit e = true then a + p e else a) (fun k (a : Int32) => a.toInt = zm (zw p x) k ∧ -(1000 * (k : Int)) ≤ a.toInt ∧ a.toInt ≤ 1000 * (k : Int)) (N := 8) (a := nI 0) ⟨(by decide : (nI 0).toInt = 0), by decide, by decide⟩ (fun k a hk ha => by
    have hp := h k hk
    rw [Int32.le_iff_toInt_le, Int32.le_iff_toInt_le, show (-1000 : Int32).toInt = -1000 from by decide, show (1000 : Int32).toInt = 1000 from by decide] at hp
    obtain ⟨h1, h2, h3⟩ := ha
    show _ = zm (zw p x) k + (if x.testBit k = true then (p k).toInt else 0) ∧ _
    by_cases c : x.testBit k = true
    · rw [if_pos c, if_pos c, Int32.toInt_add, Int.bmod_eq_of_le (by omega) (by omega), h1]
      exact ⟨rfl, by omega, by omega⟩
    · rw [if_neg c, if_neg c]
      exact ⟨by omega, by omega, by omega⟩)
  exact h2.1
/-- the set x with i out and j in, or the other way round -/
abbrev xch (x i j : Nat) : Nat := x ^^^ (2 ^ i ||| 2 ^ j)
theorem xch_tb (x i j e : Nat) : (xch x i j).testBit e = (x.testBit e ^^ (decide (i = e) || decide (j = e))) := by
  unfold xch
  rw [Nat.testBit_xor, Nat.testBit_or, Nat.testBit_two_pow, Nat.testBit_two_pow]
theorem zw_x {p : Nat → Int32} {a b i j : Nat} (a1 : a.testBit i = true) (b1 : b.testBit i = false) (b2 : b.testBit j = true) (a2 : a.testBit j = false) : zm (zw p (xch a i j)) 8 + zm (zw p (xch b i j)) 8 = zm (zw p a) 8 + zm (zw p b) 8 := by
  rw [← zm_add, ← zm_add]
  refine zm_cong 8 (fun e _ => ?_)
  have hij : ¬ i = j := fun h => by
    rw [h, a2] at a1
    cases a1
  unfold zw
  rw [xch_tb, xch_tb]
  by_cases c : i = e
  · subst c
    rw [decide_eq_true (rfl : i = i), decide_eq_false (fun h => hij h.symm : ¬ j = i), a1, b1]
    show (if (true ^^ true) = true then _ else _) + (if (false ^^ true) = true then _ else _) = _
    rw [if_neg (show ¬ (true ^^ true) = true by decide), if_pos (show (false ^^ true) = true by decide), if_pos rfl, if_neg (show ¬ false = true by decide)]
    omega
  · by_cases d : j = e
    · subst d
      rw [decide_eq_true (rfl : j = j), decide_eq_false c, a2, b2]
      show (if (false ^^ true) = true then _ else _) + (if (true ^^ true) = true then _ else _) = _
      rw [if_neg (show ¬ (true ^^ true) = true by decide), if_pos (show (false ^^ true) = true by decide), if_pos rfl, if_neg (show ¬ false = true by decide)]
      omega
    · rw [decide_eq_false c, decide_eq_false d, Bool.false_or, Bool.xor_false, Bool.xor_false]
section
variable {V P : Nat → Int32} {n r : Nat}
theorem smv_z (hW : WF n r V) (hP : ppb P) {x : Nat} (hx : x < 256) (hV : V x ≠ NO) : (smv V P x).toInt = (V x).toInt + zm (zw P x) 8 ∧ -1008000 ≤ (smv V P x).toInt ∧ (smv V P x).toInt ≤ 1008000 := by
  have h1 := WF_b hW hx hV
  have h2 := prs_gt hP x
  have h3 := prs_z hP x
  have h4 : (smv V P x).toInt = (V x).toInt + (prs P x).toInt := i2_add h1.1 h1.2 (by omega) (by omega)
  exact ⟨by omega, by omega, by omega⟩
/-- exchange: two bases, with no less value -/
def LX (V S : Nat → Int32) : Prop := ∀ a b i, a < 256 → b < 256 → i < 8 → V a ≠ NO → V b ≠ NO → a.testBit i = true → b.testBit i = false → ∃ j, j < 8 ∧ b.testBit j = true ∧ a.testBit j = false ∧ V (xch a i j) ≠ NO ∧ V (xch b i j) ≠ NO ∧ (S a).toInt + (S b).toInt ≤ (S (xch a i j)).toInt + (S (xch b i j)).toInt
theorem xch_lt {a i j : Nat} (ha : a < 256) (hi : i < 8) (hj : j < 8) : xch a i j < 256 := bit_xor_lt ha (bit_or_lt (Nat.pow_lt_pow_right (a := 2) (by decide) hi) (Nat.pow_lt_pow_right (a := 2) (by decide) hj))
theorem flt_ex {T : Nat → Int32} {a b i : Nat} (h0 : fln (flt T) 524288 = 0) (ha : a < 256) (hb : b < 256) (hi : i < 8) (hVa : T a ≠ NO) (hVb : T b ≠ NO) (c1 : a.testBit i = true) (c2 : b.testBit i = false) : ∃ j, j < 8 ∧ good T a b i j = true := by
  have h := fln_pos0 h0 (2048 * a + 8 * b + i) (by omega)
  rw [flt_at ha hb hi, decide_eq_true hVa, decide_eq_true hVb, c1, c2] at h
  have h : ((List.range 8).find? (good T a b i)).isNone = false := h
  cases e : (List.range 8).find? (good T a b i) with
  | none =>
    rw [e] at h
    cases h
  | some j => exact ⟨j, List.mem_range.1 (List.mem_of_find?_eq_some e), List.find?_some e⟩
theorem flt_0 {T : Nat → Int32} (h : ∀ a b i, a < 256 → b < 256 → i < 8 → T a ≠ NO → T b ≠ NO → a.testBit i = true → b.testBit i = false → ∃ j, j < 8 ∧ good T a b i j = true) : fln (flt T) 524288 = 0 := by
  have key : ∀ c, c < 524288 → flt T c = false := fun c hc => by
    have ha : c / 2048 < 256 := by omega
    have hb : c / 8 % 256 < 256 := by omega
    have hi : c % 8 < 8 := by omega
    unfold flt
    generalize c / 2048 = a at *
    generalize c / 8 % 256 = b at *
    generalize c % 8 = i at *
    by_cases h1 : T a ≠ NO
    · by_cases h2 : T b ≠ NO
      · cases c1 : a.testBit i with
        | false => rw [Bool.false_and, Bool.false_and, Bool.and_false, Bool.and_false]
        | true =>
          cases c2 : b.testBit i with
          | true => rw [Bool.not_true, Bool.and_false, Bool.false_and, Bool.and_false, Bool.and_false]
          | false =>
            obtain ⟨j, j1, j2⟩ := h a b i ha hb hi h1 h2 c1 c2
            have e : ((List.range 8).find? (good T a b i)).isNone = false := by
              cases e : (List.range 8).find? (good T a b i) with
              | none => exact absurd j2 (List.find?_eq_none.1 e j (List.mem_range.2 j1))
              | some k => rfl
            rw [e, Bool.and_false, Bool.and_false, Bool.and_false]
      · rw [decide_eq_false h2, Bool.false_and, Bool.and_false]
    · rw [decide_eq_false h1, Bool.false_and]
  have e := fln_gap (p := flt T) 524288 0 524288 (by omega) (fun c _ hc => key c hc)
  exact e
theorem LX_of (hW : WF n r V) (hP : ppb P) (h0 : fln (flt V) 524288 = 0) : LX V (smv V P) := fun a b i ha hb hi hVa hVb c1 c2 => by
  obtain ⟨j, hj, g⟩ := flt_ex h0 ha hb hi hVa hVb c1 c2
  unfold good at g
  rw [Bool.and_eq_true, Bool.and_eq_true, Bool.and_eq_true, Bool.and_eq_true, Bool.not_eq_true', Bool.not_eq_true'] at g
  obtain ⟨⟨g1, g2⟩, g3, g4, g5⟩ := g
  have g3 := of_decide_eq_true g3
  have g4 := of_decide_eq_true g4
  have g5 := of_decide_eq_false g5
  have hx := xch_lt ha hi hj
  have hy := xch_lt hb hi hj
  refine ⟨j, hj, g1, g2, g3, g4, ?_⟩
  have z1 := (smv_z hW hP ha hVa).1
  have z2 := (smv_z hW hP hb hVb).1
  have z3 := (smv_z hW hP hx g3).1
  have z4 := (smv_z hW hP hy g4).1
  have z5 := zw_x (p := P) c1 c2 g1 g2
  have b1 := WF_b hW ha hVa
  have b2 := WF_b hW hb hVb
  have b3 := WF_b hW hx g3
  have b4 := WF_b hW hy g4
  have s1 := i2_add b1.1 b1.2 b2.1 b2.2
  have s2 := i2_add b3.1 b3.2 b4.1 b4.2
  rw [Int32.lt_iff_toInt_lt] at g5
  unfold xch at *
  omega
/-- one set less -/
theorem sd_xch {a b i j : Nat} (b1 : b.testBit i = false) (a2 : a.testBit j = false) : sd a (xch b i j) = sd a b ^^^ (if a.testBit i = true then 2 ^ i else 0) := by
  apply Nat.eq_of_testBit_eq
  intro e
  rw [sd_bit, xch_tb, Nat.testBit_xor, sd_bit]
  by_cases c : i = e
  · subst c
    by_cases d : a.testBit i = true
    · rw [if_pos d, Nat.testBit_two_pow, decide_eq_true (rfl : i = i), d, b1]
      rfl
    · rw [if_neg d, Bool.eq_false_iff.2 d, Nat.zero_testBit]
      rfl
  · have hz : (if a.testBit i = true then 2 ^ i else 0).testBit e = false := by
      split
      · rw [Nat.testBit_two_pow, decide_eq_false c]
      · exact Nat.zero_testBit e
    rw [hz, decide_eq_false c, Bool.false_or, Bool.xor_false]
    by_cases d : j = e
    · subst d
      rw [a2]
      rfl
    · rw [decide_eq_false d, Bool.xor_false]
theorem nb_xch {a i j : Nat} (hi : i < 8) (a1 : a.testBit i = true) (a2 : a.testBit j = false) : nb a (xch a i j) := by
  have e : sd a (xch a i j) = 2 ^ i := by
    apply Nat.eq_of_testBit_eq
    intro e
    rw [sd_bit, xch_tb, Nat.testBit_two_pow]
    by_cases c : i = e
    · subst c
      rw [a1, decide_eq_true (rfl : i = i)]
      rfl
    · rw [decide_eq_false c, Bool.false_or]
      by_cases d : j = e
      · subst d
        rw [a2]
        rfl
      · rw [decide_eq_false d, Bool.xor_false]
        cases a.testBit e <;> rfl
  refine ⟨fun h => ?_, by rw [e]; exact pc_2 i hi⟩
  have h2 := xch_tb a i j i
  rw [← h, a1, decide_eq_true (rfl : i = i), Bool.true_or] at h2
  exact absurd h2 (by decide)
theorem bits_eq {a b : Nat} (hb : b < 256) (h : sd a b = 0) (hp : pc b = pc a) : a = b := by
  have h1 := pc_split a b
  have h2 := pc_split b a
  rw [h] at h1
  have h3 : pc 0 = 0 := rfl
  rw [Nat.and_comm b a] at h2
  have h4 : sd b a = 0 := by
    rcases Nat.eq_zero_or_pos (sd b a) with h4 | h4
    · exact h4
    · have := pc_ne (sd b a) (sd_lt hb) h4
      omega
  apply Nat.eq_of_testBit_eq
  intro e
  have e1 := sd_bit a b e
  have e2 := sd_bit b a e
  rw [h, Nat.zero_testBit] at e1
  rw [h4, Nat.zero_testBit] at e2
  cases h5 : a.testBit e <;> cases h6 : b.testBit e <;> rw [h5, h6] at e1 e2
  · cases e2
  · cases e1
/-- none beside is greater: none is -/
theorem loc_glob {S : Nat → Int32} (hW : WF n r V) (hX : LX V S) {a : Nat} (ha : a ∈ BL V) (h : NX V S a none) : ∀ m b, b ∈ BL V → pc (sd a b) ≤ m → (S b).toInt ≤ (S a).toInt := by
  intro m
  have ha2 := BL_mem.1 ha
  have hpa := (hW.2.2.2.2.1 a ha2.1 ha2.2).2.1
  induction m with
  | zero =>
    intro b hb hm
    have hb2 := BL_mem.1 hb
    have hpb := (hW.2.2.2.2.1 b hb2.1 hb2.2).2.1
    have h0 : sd a b = 0 := by
      rcases Nat.eq_zero_or_pos (sd a b) with h4 | h4
      · exact h4
      · have := pc_ne (sd a b) (sd_lt ha2.1) h4
        omega
    rw [bits_eq hb2.1 h0 (by omega)]
    exact Int.le_refl _
  | succ m ih =>
    intro b hb hm
    have hb2 := BL_mem.1 hb
    have hpb := (hW.2.2.2.2.1 b hb2.1 hb2.2).2.1
    by_cases h0 : sd a b = 0
    · rw [bits_eq hb2.1 h0 (by omega)]
      exact Int.le_refl _
    · obtain ⟨i, hi⟩ := Nat.exists_testBit_of_ne_zero h0
      have hi8 : i < 8 := by
        rcases Nat.lt_or_ge i 8 with h8 | h8
        · exact h8
        · rw [tb_hi (n := 8) (sd_lt ha2.1) h8] at hi
          cases hi
      have hib := hi
      rw [sd_bit, Bool.and_eq_true, Bool.not_eq_true'] at hib
      obtain ⟨j, j1, j2, j3, j4, j5, j6⟩ := hX a b i ha2.1 hb2.1 hi8 ha2.2 hb2.2 hib.1 hib.2
      have h1 := h _ (BL_mem.2 ⟨xch_lt ha2.1 hi8 j1, j4⟩) (nb_xch hi8 hib.1 j3)
      rw [Int32.le_iff_toInt_le] at h1
      have h2 := ih (xch b i j) (BL_mem.2 ⟨xch_lt hb2.1 hi8 j1, j5⟩) (by
        rw [sd_xch hib.2 j3, if_pos hib.1]
        have := pc_x (sd a b) (sd_lt ha2.1) i hi8 hi
        omega)
      omega
end
