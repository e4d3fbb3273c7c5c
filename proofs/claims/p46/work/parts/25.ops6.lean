/-! Out of whole's part 25.ops6, by wip/p46/extract.py. -/
/-- the first place that does, or -2 -/
def fndE (o : Option Nat) : Int32 := match o with
  | some j => nI j
  | none => -2
theorem lp_find {b : Int32 → Option (Int32 ⊕ (Int32 ⊕ Unit))} (good : Nat → Bool) (N : Nat) (hN : N < 2000000) (hs : ∀ i, i < N → b (nI i) = some (if good i = true then .inr (.inl (nI i)) else .inl (nI (i + 1)))) (he : b (nI N) = some (.inr (.inr ()))) : lp b o_N (nI 0) = some (match (List.range N).find? good with
    | some j => .inl (nI j)
    | none => .inr ()) := by
  have h := lp_fs_o (b := b) (fun i (_ : Unit) => nI i) (fun i a => if good i = true then .inr (.inl (nI i)) else .inl a) (fun _ => .inr ()) (fun _ _ => True) N () (fun i a hi _ => by
    by_cases hb : good i = true
    · refine ⟨fun a2 e => ?_, fun r e => ?_⟩
      · rw [if_pos hb] at e
        cases e
      · rw [if_pos hb] at e
        cases e
        rw [hs i hi, if_pos hb]
    · refine ⟨fun a2 e => ⟨trivial, ?_⟩, fun r e => ?_⟩
      · rw [hs i hi, if_neg hb]
      · rw [if_neg hb] at e
        cases e) (fun _ _ => he) trivial hN
  rw [h]
  have key : ∀ l : List Nat, (match ls (ρ := Int32 ⊕ Unit) (fun i a => if good i = true then .inr (.inl (nI i)) else .inl a) l () with
      | .inl _ => .inr ()
      | .inr r => r) = (match l.find? good with
      | some j => .inl (nI j)
      | none => .inr () : Int32 ⊕ Unit) := by
    intro l
    induction l with
    | nil => rfl
    | cons x l ih =>
      unfold ls
      by_cases hb : good x = true
      · rw [if_pos hb, List.find?_cons_of_pos hb]
      · rw [if_neg hb, List.find?_cons_of_neg hb]
        exact ih
  rw [← key]
  cases ls (ρ := Int32 ⊕ Unit) (fun i a => if good i = true then .inr (.inl (nI i)) else .inl a) (List.range N) () <;> rfl
theorem sd_lt {a b : Nat} (ha : a < 256) : sd a b < 256 := bit_xor_lt ha (bit_and_lt ha)
/-- j does for a, b, i -/
def good (T : Nat → Int32) (a b i j : Nat) : Bool := (b.testBit j && !a.testBit j) && (decide (T (a ^^^ (2 ^ i ||| 2 ^ j)) ≠ NO) && (decide (T (b ^^^ (2 ^ i ||| 2 ^ j)) ≠ NO) && !decide (T (a ^^^ (2 ^ i ||| 2 ^ j)) + T (b ^^^ (2 ^ i ||| 2 ^ j)) < T a + T b)))
theorem c_34 {I : ai_I} {c a b i : Nat} {L : ai_G} (hk : (Gc L).1 c = 13) (hn : (Gc L).2.1 c = 256) (ha : a < 256) (hb : b < 256) (hi : i < 8) : m_23 c (nI a) (nI b) (nI i) I (Gc L) = some (fndE ((List.range 8).find? (good (I c) a b i))) := by
  unfold m_23
  rw [gi hk hn ha (by decide), o_g_t, gi hk hn hb (by decide), o_g_t, o_b1_s, i_sd, o_b1_s, i_cl (by omega), i_cl (by omega), lp_find (good (I c) a b i) 8 (by decide) ?_ ?_]
  · cases (List.range 8).find? (good (I c) a b i) <;> rfl
  · intro j hj
    have h1 : 2 ^ i ||| 2 ^ j < 256 := bit_or_lt (p2_lt hi) (p2_lt hj)
    have h2 := bit_xor_lt ha h1
    have h3 := bit_xor_lt hb h1
    unfold m_23_b19
    rw [q_leF (by decide) hj, c_183 (sd_lt hb) (by omega), o_b1_s, q_bz, i_shl (by decide) (by omega), i_shl (by decide) (by omega), Nat.one_mul, Nat.one_mul, i_or, o_b1_s, i_xor, i_xor, gi hk hn h2 (by decide), o_g_t, i_cl (by omega), o_b1_s, gi hk hn h3 (by decide), o_g_t, i_cl (by omega), o_b1_s, i_add, o_b1_s, sd_bit]
    unfold good
    by_cases c1 : (b.testBit j && !a.testBit j) = true
    · rw [if_pos c1]
      by_cases c2 : I c (a ^^^ (2 ^ i ||| 2 ^ j)) = NO
      · rw [if_pos c2, if_neg (by simp [c2])]
      · rw [if_neg c2]
        by_cases c3 : I c (b ^^^ (2 ^ i ||| 2 ^ j)) = NO
        · rw [if_pos c3, if_neg (by simp [c3])]
        · rw [if_neg c3]
          by_cases c4 : I c (a ^^^ (2 ^ i ||| 2 ^ j)) + I c (b ^^^ (2 ^ i ||| 2 ^ j)) < I c a + I c b
          · rw [if_pos c4, if_neg (by simp [c4])]
          · rw [if_neg c4, if_pos (by rw [c1, decide_eq_true c2, decide_eq_true c3, decide_eq_false c4]; rfl)]
    · rw [if_neg c1, if_neg (fun h4 => c1 (Bool.and_eq_true _ _ ▸ h4).1)]
  · unfold m_23_b19
    rw [q_leT (by decide) (Nat.le_refl _)]
/-- the reference lays the values (w 0), or 0 for each base (w 1), aside -/
def wrow (V : Nat → Int32) (w k : Nat) : Int32 := if V k ≠ NO then (if w = 0 then V k else nI 0) else NO
theorem find_cong {p q : Nat → Bool} : ∀ l : List Nat, (∀ x ∈ l, p x = q x) → l.find? p = l.find? q
  | [], _ => rfl
  | x :: l, h => by
    have hx := h x (List.mem_cons_self ..)
    have ih := find_cong l (fun y hy => h y (List.mem_cons_of_mem _ hy))
    by_cases hp : p x = true
    · rw [List.find?_cons_of_pos hp, List.find?_cons_of_pos (by rw [← hx]; exact hp)]
    · rw [List.find?_cons_of_neg hp, List.find?_cons_of_neg (by rw [← hx]; exact hp), ih]
theorem good_e {T U : Nat → Int32} {a b i x : Nat} (h : ∀ k, k < 256 → T k = U k) (ha : a < 256) (hb : b < 256) (hi : i < 8) (hx : x < 8) : good T a b i x = good U a b i x := by
  have h1 : 2 ^ i ||| 2 ^ x < 256 := bit_or_lt (p2_lt hi) (p2_lt hx)
  have e1 := h _ (bit_xor_lt ha h1)
  have e2 := h _ (bit_xor_lt hb h1)
  unfold good
  rw [e1, e2, h a ha, h b hb]
theorem good_cong {T U : Nat → Int32} {a b i : Nat} (h : ∀ k, k < 256 → T k = U k) (ha : a < 256) (hb : b < 256) (hi : i < 8) : (List.range 8).find? (good T a b i) = (List.range 8).find? (good U a b i) := find_cong _ (fun x hx => good_e h ha hb hi (List.mem_range.1 hx))
