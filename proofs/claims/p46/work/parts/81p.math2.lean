/-! Where the law holds: the greatest ones, spanned rows. -/
theorem gs_ge {S : Nat → Int32} : ∀ (l : List Nat) (m : Int32), m ≤ fd (fun x m => mx m (S x)) l m ∧ (∀ x ∈ l, S x ≤ fd (fun x m => mx m (S x)) l m) ∧ (fd (fun x m => mx m (S x)) l m = m ∨ ∃ x, x ∈ l ∧ fd (fun x m => mx m (S x)) l m = S x)
  | [], m => ⟨Int32.le_refl _, ⟨fun x hx => absurd hx List.not_mem_nil, Or.inl rfl⟩⟩
  | y :: l, m => by
    obtain ⟨h1, h2, h3⟩ := gs_ge l (mx m (S y))
    have e : fd (fun x m => mx m (S x)) (y :: l) m = fd (fun x m => mx m (S x)) l (mx m (S y)) := rfl
    rw [e]
    have hm : m ≤ mx m (S y) ∧ S y ≤ mx m (S y) ∧ (mx m (S y) = m ∨ mx m (S y) = S y) := by
      unfold mx
      by_cases c : m ≤ S y
      · rw [if_pos c]
        exact ⟨c, Int32.le_refl _, Or.inr rfl⟩
      · rw [if_neg c]
        exact ⟨Int32.le_refl _, Int32.le_of_lt (Int32.not_le.1 c), Or.inl rfl⟩
    refine ⟨Int32.le_trans hm.1 h1, fun x hx => ?_, ?_⟩
    · rcases List.mem_cons.1 hx with rfl | hx
      · exact Int32.le_trans hm.2.1 h1
      · exact h2 x hx
    · rcases h3 with h3 | ⟨x, hx, h3⟩
      · rcases hm.2.2 with h4 | h4
        · exact Or.inl (h3.trans h4)
        · exact Or.inr ⟨y, List.mem_cons_self .., h3.trans h4⟩
      · exact Or.inr ⟨x, List.mem_cons_of_mem _ hx, h3⟩
section
variable {V P S : Nat → Int32} {n r : Nat}
theorem gs_ub {x : Nat} (h : x ∈ BL V) : S x ≤ gs S (BL V) := (gs_ge (BL V) NO).2.1 x h
theorem gs_in (hW : WF n r V) (hS : ∀ x, x ∈ BL V → ¬ S x ≤ NO) : ∃ x, x ∈ BL V ∧ gs S (BL V) = S x := by
  rcases (gs_ge (S := S) (BL V) NO).2.2 with h | h
  · have hp := BL_pos hW
    have h1 := gs_ub (S := S) (BL_in hp)
    exact absurd (Int32.le_trans h1 (by rw [show gs S (BL V) = NO from h]; exact Int32.le_refl _)) (hS _ (BL_in hp))
  · exact h
/-- where none beside is greater, it is the greatest -/
theorem loc_gs (hW : WF n r V) (hX : LX V S) (hS : ∀ x, x ∈ BL V → ¬ S x ≤ NO) {a : Nat} (ha : a ∈ BL V) (h : NX V S a none) : S a = gs S (BL V) := by
  obtain ⟨x, hx, e⟩ := gs_in hW hS
  have h1 := loc_glob hW hX ha h (pc (sd a x)) x hx (Nat.le_refl _)
  refine Int32.le_antisymm (gs_ub ha) ?_
  rw [e, Int32.le_iff_toInt_le]
  exact h1
/-- the greatest ones are a matroid's bases -/
theorem law_ini (hX : LX V S) : fln (flt (irow V S (gs S (BL V)))) 524288 = 0 := by
  refine flt_0 (fun a b i ha hb hi hVa hVb c1 c2 => ?_)
  have inq' : ∀ x, irow V S (gs S (BL V)) x ≠ NO → V x ≠ NO ∧ S x = gs S (BL V) := fun x hx => by
    unfold irow at hx
    by_cases c : inq V S (gs S (BL V)) x = true
    · unfold inq at c
      rw [Bool.and_eq_true] at c
      exact ⟨of_decide_eq_true c.1, of_decide_eq_true c.2⟩
    · rw [if_neg c] at hx
      exact absurd rfl hx
  have inq2 : ∀ x, V x ≠ NO → S x = gs S (BL V) → irow V S (gs S (BL V)) x = nI 0 := fun x h1 h2 => by
    unfold irow
    rw [if_pos (inq_t h1 h2)]
  obtain ⟨a1, a2⟩ := inq' a hVa
  obtain ⟨b1, b2⟩ := inq' b hVb
  obtain ⟨j, j1, j2, j3, j4, j5, j6⟩ := hX a b i ha hb hi a1 b1 c1 c2
  have u1 := gs_ub (S := S) (BL_mem.2 ⟨xch_lt ha hi j1, j4⟩)
  have u2 := gs_ub (S := S) (BL_mem.2 ⟨xch_lt hb hi j1, j5⟩)
  rw [Int32.le_iff_toInt_le] at u1 u2
  rw [a2, b2] at j6
  have e1 : S (xch a i j) = gs S (BL V) := Int32.toInt_inj.1 (by omega)
  have e2 : S (xch b i j) = gs S (BL V) := Int32.toInt_inj.1 (by omega)
  refine ⟨j, j1, ?_⟩
  unfold good
  have f1 := inq2 _ j4 e1
  have f2 := inq2 _ j5 e2
  unfold xch at f1 f2
  rw [f1, f2, inq2 _ a1 a2, inq2 _ b1 b2, j2, j3]
  decide
theorem LXV_of (hW : WF n r V) (h0 : fln (flt V) 524288 = 0) : LX V V := fun a b i ha hb hi hVa hVb c1 c2 => by
  obtain ⟨j, hj, g⟩ := flt_ex h0 ha hb hi hVa hVb c1 c2
  unfold good at g
  rw [Bool.and_eq_true, Bool.and_eq_true, Bool.and_eq_true, Bool.and_eq_true, Bool.not_eq_true', Bool.not_eq_true'] at g
  obtain ⟨⟨g1, g2⟩, g3, g4, g5⟩ := g
  have g3 := of_decide_eq_true g3
  have g4 := of_decide_eq_true g4
  have g5 := of_decide_eq_false g5
  refine ⟨j, hj, g1, g2, g3, g4, ?_⟩
  have b1 := WF_b hW ha hVa
  have b2 := WF_b hW hb hVb
  have b3 := WF_b hW (xch_lt ha hi hj) g3
  have b4 := WF_b hW (xch_lt hb hi hj) g4
  have s1 := i2_add b1.1 b1.2 b2.1 b2.2
  have s2 := i2_add b3.1 b3.2 b4.1 b4.2
  rw [Int32.lt_iff_toInt_lt] at g5
  unfold xch at *
  omega
/-- numbers at a set: who takes part -/
def cand (V : Nat → Int32) (hav set e : Nat) : Prop := (set &&& hav).testBit e = true ∧ V (set ^^^ 2 ^ e) ≠ NO
theorem tws_1 {num : Nat → Int32} {hav set : Nat} (hv : ∀ e, e < 8 → cand V hav set e → ¬ V (set ^^^ 2 ^ e) + num e ≤ NO) (h1 : (tws V num hav set).2 = 1) : ∃ e, e < 8 ∧ cand V hav set e ∧ ∀ e', e' < 8 → cand V hav set e' → ¬ e' = e → V (set ^^^ 2 ^ e') + num e' < V (set ^^^ 2 ^ e) + num e := by
  have key := fd_idx (f := twc V num hav set) (fun m (q : Int32 × Nat) => (∀ e, e < m → cand V hav set e → V (set ^^^ 2 ^ e) + num e ≤ q.1) ∧ (q.2 = 0 → q.1 = NO) ∧ (q.2 = 1 → ∃ e, e < m ∧ cand V hav set e ∧ q.1 = V (set ^^^ 2 ^ e) + num e ∧ ∀ e', e' < m → cand V hav set e' → ¬ e' = e → V (set ^^^ 2 ^ e') + num e' < V (set ^^^ 2 ^ e) + num e)) (N := 8) (a := (NO, 0)) ⟨fun e he => absurd he (Nat.not_lt_zero _), fun _ => rfl, fun h => absurd h (by decide)⟩ (fun m q hm hq => by
    obtain ⟨t, k⟩ := q
    obtain ⟨q1, q2, q3⟩ := hq
    dsimp only at q1 q2 q3
    unfold twc
    by_cases c1 : (set &&& hav).testBit m = true
    · rw [if_pos c1]
      by_cases c2 : V (set ^^^ 2 ^ m) ≠ NO
      · rw [if_pos c2]
        have hc : cand V hav set m := ⟨c1, c2⟩
        have hno := hv m hm hc
        by_cases c3 : V (set ^^^ 2 ^ m) + num m ≤ t
        · rw [if_pos c3]
          have hk : ¬ k = 0 := fun h9 => by
            rw [q2 h9] at c3
            exact hno c3
          refine ⟨fun e he hce => ?_, fun h9 => ?_, fun h9 => ?_⟩
          · by_cases d : e = m
            · rw [d]
              exact c3
            · exact q1 e (by omega) hce
          · dsimp only at h9
            split at h9 <;> omega
          · dsimp only at h9 ⊢
            by_cases c4 : V (set ^^^ 2 ^ m) + num m = t
            · rw [if_pos c4] at h9
              omega
            · rw [if_neg c4] at h9
              obtain ⟨e, e1, e2, e3, e4⟩ := q3 h9
              refine ⟨e, by omega, e2, e3, fun e' h1 h2 h3 => ?_⟩
              by_cases d : e' = m
              · rw [d, ← e3]
                exact Int32.lt_of_le_of_ne c3 c4
              · exact e4 e' (by omega) h2 h3
        · rw [if_neg c3]
          have c3 := Int32.not_le.1 c3
          refine ⟨fun e he hce => ?_, fun h9 => absurd (show (1 : Nat) = 0 from h9) (by decide), fun _ => ⟨m, by omega, hc, rfl, fun e' h1 h2 h3 => Int32.lt_of_le_of_lt (q1 e' (by omega) h2) c3⟩⟩
          by_cases d : e = m
          · rw [d]
            exact Int32.le_refl _
          · exact Int32.le_of_lt (Int32.lt_of_le_of_lt (q1 e (by omega) hce) c3)
      · rw [if_neg c2]
        have nc : ∀ e, e < m + 1 → cand V hav set e → e < m := fun e he hce => by
          rcases (by omega : e < m ∨ e = m) with h9 | h9
          · exact h9
          · rw [h9] at hce
            exact absurd hce.2 c2
        refine ⟨fun e he hce => q1 e (nc e he hce) hce, q2, fun h9 => ?_⟩
        obtain ⟨e, e1, e2, e3, e4⟩ := q3 h9
        exact ⟨e, by omega, e2, e3, fun e' h1 h2 h3 => e4 e' (nc e' h1 h2) h2 h3⟩
    · rw [if_neg c1]
      have nc : ∀ e, e < m + 1 → cand V hav set e → e < m := fun e he hce => by
        rcases (by omega : e < m ∨ e = m) with h9 | h9
        · exact h9
        · rw [h9] at hce
          exact absurd hce.1 c1
      refine ⟨fun e he hce => q1 e (nc e he hce) hce, q2, fun h9 => ?_⟩
      obtain ⟨e, e1, e2, e3, e4⟩ := q3 h9
      exact ⟨e, by omega, e2, e3, fun e' h1 h2 h3 => e4 e' (nc e' h1 h2) h2 h3⟩)
  obtain ⟨e, e1, e2, -, e4⟩ := key.2.2 h1
  exact ⟨e, e1, e2, e4⟩
/-- where the law holds, each row that the valuation spans lies in the space -/
theorem law_span (hW : WF n r V) (hX : LX V V) {x T : Nat} (hx : x < 2 ^ n) (hT : T < 2 ^ n) : ¬ (tws V (fun e => V (x ||| 2 ^ e)) (hvs V x n) T).2 = 1 := by
  intro h1
  have hn := hW.2.1
  have h8 := p2_le hn
  have hb : ∀ e, e < 8 → cand V (hvs V x n) T e → V (x ||| 2 ^ e) ≠ NO ∧ x.testBit e = false ∧ T.testBit e = true ∧ e < n := fun e he hc => by
    have h2 := hc.1
    rw [Nat.testBit_and, Bool.and_eq_true, hvs_tb, Bool.and_eq_true, Bool.and_eq_true, Bool.not_eq_true'] at h2
    exact ⟨of_decide_eq_true h2.2.2.2, h2.2.2.1, h2.1, of_decide_eq_true h2.2.1⟩
  have h2e : ∀ e, e < 8 → 2 ^ e < 256 := fun e he => Nat.pow_lt_pow_right (a := 2) (by decide) he
  have hlt1 : ∀ e, e < 8 → T ^^^ 2 ^ e < 256 := fun e he => bit_xor_lt (by omega) (h2e e he)
  have hlt2 : ∀ e, e < 8 → x ||| 2 ^ e < 256 := fun e he => bit_or_lt (by omega) (h2e e he)
  have hsum : ∀ e, e < 8 → V (T ^^^ 2 ^ e) ≠ NO → V (x ||| 2 ^ e) ≠ NO → (V (T ^^^ 2 ^ e) + V (x ||| 2 ^ e)).toInt = (V (T ^^^ 2 ^ e)).toInt + (V (x ||| 2 ^ e)).toInt ∧ -2000000 ≤ (V (T ^^^ 2 ^ e) + V (x ||| 2 ^ e)).toInt := fun e he v1 v2 => by
    have b1 := WF_b hW (hlt1 e he) v1
    have b2 := WF_b hW (hlt2 e he) v2
    have h3 := i2_add b1.1 b1.2 b2.1 b2.2
    exact ⟨h3, by omega⟩
  obtain ⟨e, he, hc, hu⟩ := tws_1 (fun e he hc h9 => by
    have h3 := (hsum e he hc.2 (hb e he hc).1).2
    rw [Int32.le_iff_toInt_le, show NO.toInt = -2147483648 from by decide] at h9
    omega) h1
  obtain ⟨b1, b2, b3, b4⟩ := hb e he hc
  have at1 : (x ||| 2 ^ e).testBit e = true := by
    rw [Nat.testBit_or, Nat.testBit_two_pow, decide_eq_true (rfl : e = e), Bool.or_true]
  have at2 : (T ^^^ 2 ^ e).testBit e = false := by
    rw [Nat.testBit_xor, Nat.testBit_two_pow, decide_eq_true (rfl : e = e), b3]
    rfl
  obtain ⟨j, j1, j2, j3, j4, j5, j6⟩ := hX (x ||| 2 ^ e) (T ^^^ 2 ^ e) e (hlt2 e he) (hlt1 e he) he b1 hc.2 at1 at2
  rw [Nat.testBit_or, Bool.or_eq_false_iff, Nat.testBit_two_pow] at j3
  have hje : ¬ j = e := fun h9 => by
    rw [h9, decide_eq_true (rfl : e = e)] at j3
    cases j3.2
  rw [Nat.testBit_xor, Nat.testBit_two_pow, decide_eq_false (fun h9 => hje h9.symm), Bool.xor_false] at j2
  have e1 : xch (x ||| 2 ^ e) e j = x ||| 2 ^ j := by
    apply Nat.eq_of_testBit_eq
    intro k
    rw [xch_tb, Nat.testBit_or, Nat.testBit_or, Nat.testBit_two_pow, Nat.testBit_two_pow]
    by_cases c : e = k
    · subst c
      rw [b2, decide_eq_true (rfl : e = e), decide_eq_false hje]
      rfl
    · by_cases d : j = k
      · subst d
        rw [j3.1, decide_eq_false c, decide_eq_true (rfl : j = j)]
        rfl
      · rw [decide_eq_false c, decide_eq_false d, Bool.or_false, Bool.or_false, Bool.xor_false]
  have e2 : xch (T ^^^ 2 ^ e) e j = T ^^^ 2 ^ j := by
    apply Nat.eq_of_testBit_eq
    intro k
    rw [xch_tb, Nat.testBit_xor, Nat.testBit_xor, Nat.testBit_two_pow, Nat.testBit_two_pow]
    by_cases c : e = k
    · subst c
      rw [b3, decide_eq_true (rfl : e = e), decide_eq_false hje]
      rfl
    · rw [decide_eq_false c, Bool.xor_false, Bool.false_or]
  rw [e1] at j4 j6
  rw [e2] at j5 j6
  have hjn : j < n := by
    rcases Nat.lt_or_ge j n with h9 | h9
    · exact h9
    · rw [tb_hi hT h9] at j2
      cases j2
  have hcj : cand V (hvs V x n) T j := ⟨by
    rw [Nat.testBit_and, hvs_tb, j2, j3.1, decide_eq_true hjn, decide_eq_true j4]
    rfl, j5⟩
  have h5 := hu j j1 hcj hje
  rw [Int32.lt_iff_toInt_lt, (hsum e he hc.2 b1).1, (hsum j j1 j5 j4).1] at h5
  omega
end
