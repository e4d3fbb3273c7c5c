/-! The law's small methods over values: has, isBase, prices, exchange, twice, values, priced. -/
section
variable {I : ai_I} {t s v p : Nat} {L : ai_G} {A : SV} {V P : Nat → Int32}
theorem k_has {a e : Nat} (ha : a < 256) (he : e < 8) : m_121 (nI a) (nI e) = some (bz (a.testBit e = true)) := by
  unfold m_121
  rw [bit1 a ha e he]
  by_cases c : a.testBit e = true
  · rw [bz_t c, if_pos rfl]
  · rw [bz_f c, if_neg (by decide)]
/-- array v of the law's has the values V -/
def HV (I : ai_I) (v : Nat) (V : Nat → Int32) : Prop := ∀ x, x < 256 → I v x = V x
theorem HV_of {J : ai_I} (h : HV I v V) (e : J v = I v) : HV J v V := fun x hx => by
  rw [e]
  exact h x hx
theorem k_isB {x : Nat} (hv : ary L v 256) (h : HV I v V) (hx : x < 256) : m_126 v (nI x) I (Gc L) = some (bz (V x ≠ NO)) := by
  unfold m_126
  rw [i_and, show x &&& 255 = x from by rw [show (255 : Nat) = 2 ^ 8 - 1 from rfl, Nat.and_two_pow_sub_one_eq_mod]; exact Nat.mod_eq_of_lt hx, ay_in hv hx (by decide), o_g_t, i_cl (by omega), h x hx, NO_eq]
  by_cases c : V x = NO
  · rw [if_pos c, bz_f (fun h9 => h9 c)]
  · rw [if_neg c, bz_t c]
theorem k_prs {x : Nat} (hp : ary L p 8) (h : ∀ e, e < 8 → I p e = P e) (hx : x < 256) : m_124 p (nI x) I (Gc L) = some (prs P x) := by
  rw [prs_cong (p := P) (q := I p) (fun e he => (h e he).symm)]
  unfold m_124
  refine lp_fd_s1 (fun k a => (a, nI k)) (fun e a => if x.testBit e = true then a + I p e else a) (fun a => a) (fun _ _ => True) 8 (nI 0) ?_ ?_ trivial (by decide) rfl
  · intro e a he _
    refine ⟨trivial, ?_⟩
    show m_124_b4 p (nI x) I (Gc L) a (nI e) = _
    unfold m_124_b4
    rw [q_leF (by omega) he, k_has hx he, o_b1_s, q_bz, ay_in hp he (by decide), o_g_t, i_cl (by omega), i_add, o_b1_s, o_b1_s, o_b1_s, o_b1_s]
    by_cases c : x.testBit e = true
    · rw [if_pos c, if_pos c]
    · rw [if_neg c, if_neg c, show a + nI 0 = a from Int32.add_zero a]
  · intro a _
    show m_124_b4 p (nI x) I (Gc L) a (nI 8) = _
    unfold m_124_b4
    rw [q_leT (by decide) (Nat.le_refl _)]
/-- the least good one -/
theorem fndE_of {g : Nat → Bool} {q : Int32} (h : (∃ j, j < 8 ∧ g j = true ∧ (∀ k, k < j → g k = false) ∧ q = nI j) ∨ (q = -2 ∧ ∀ k, k < 8 → g k = false)) : q = fndE ((List.range 8).find? g) := by
  rcases h with ⟨j, j1, j2, j3, rfl⟩ | ⟨rfl, h⟩
  · rw [List.find?_range_eq_some.2 ⟨j2, List.mem_range.2 j1, fun k hk => by rw [j3 k hk]; rfl⟩]
    rfl
  · rw [List.find?_eq_none.2 (fun x hx => by rw [h x (List.mem_range.1 hx)]; decide)]
    rfl
theorem ex_x {a i j : Nat} (h1 : a.testBit i = true) (h2 : a.testBit j = false) : sd a (2 ^ i) ||| 2 ^ j = a ^^^ (2 ^ i ||| 2 ^ j) := by
  apply Nat.eq_of_testBit_eq
  intro k
  rw [Nat.testBit_or, sd_bit, Nat.testBit_xor, Nat.testBit_or, Nat.testBit_two_pow, Nat.testBit_two_pow]
  by_cases c1 : i = k
  · subst c1
    have c2 : ¬ j = i := fun h9 => by rw [h9, h1] at h2; cases h2
    rw [decide_eq_true (rfl : i = i), decide_eq_false c2, h1]
    rfl
  · rw [decide_eq_false c1]
    by_cases c2 : j = k
    · subst c2
      rw [decide_eq_true (rfl : j = j), h2]
      rfl
    · rw [decide_eq_false c2]
      cases a.testBit k <;> rfl
theorem ex_y {b i j : Nat} (h1 : b.testBit i = false) (h2 : b.testBit j = true) : sd b (2 ^ j) ||| 2 ^ i = b ^^^ (2 ^ i ||| 2 ^ j) := by
  rw [ex_x h2 h1, Nat.or_comm]
/-- the row that plain exchange is tried over -/
def pl (V : Nat → Int32) : Nat → Nat → Int32
  | 0 => V
  | _ => wrow V 1
theorem pl_no {w x : Nat} : pl V w x = NO ↔ V x = NO := by
  cases w with
  | zero => exact Iff.rfl
  | succ w =>
    show wrow V 1 x = NO ↔ _
    unfold wrow
    by_cases c : V x ≠ NO
    · rw [if_pos c, if_neg (by decide)]
      exact ⟨fun h => absurd h (by decide), fun h => absurd h c⟩
    · rw [if_neg c]
      exact ⟨fun _ => Decidable.of_not_not c, fun _ => rfl⟩
theorem gd_pl {w a b i j : Nat} (hw : ¬ w = 0) (ha : V a ≠ NO) (hb : V b ≠ NO) : good (pl V w) a b i j = ((b.testBit j && !a.testBit j) && (decide (V (a ^^^ (2 ^ i ||| 2 ^ j)) ≠ NO) && decide (V (b ^^^ (2 ^ i ||| 2 ^ j)) ≠ NO))) := by
  have e : ∀ x, V x ≠ NO → pl V w x = nI 0 := fun x hx => by
    cases w with
    | zero => exact absurd rfl hw
    | succ w =>
      show wrow V 1 x = nI 0
      unfold wrow
      rw [if_pos hx, if_neg (by decide)]
  unfold good
  have d : ∀ x, decide (pl V w x ≠ NO) = decide (V x ≠ NO) := fun x => decide_eq_decide.2 (not_congr pl_no)
  rw [d, d]
  by_cases c1 : V (a ^^^ (2 ^ i ||| 2 ^ j)) ≠ NO
  · by_cases c2 : V (b ^^^ (2 ^ i ||| 2 ^ j)) ≠ NO
    · rw [e _ c1, e _ c2, e _ ha, e _ hb, decide_eq_true c1, decide_eq_true c2]
      cases b.testBit j <;> cases a.testBit j <;> rfl
    · rw [decide_eq_false c2]
      cases b.testBit j <;> cases a.testBit j <;> cases decide (V (a ^^^ (2 ^ i ||| 2 ^ j)) ≠ NO) <;> rfl
  · rw [decide_eq_false c1]
    cases b.testBit j <;> cases a.testBit j <;> rfl
theorem k_exch {a b i w : Nat} (hv : ary L v 256) (h : HV I v V) (ha : a < 256) (hb : b < 256) (hi : i < 8) (hw : w < 2) (hVa : V a ≠ NO) (hVb : V b ≠ NO) (c1 : a.testBit i = true) (c2 : b.testBit i = false) : m_127 v (nI a) (nI b) (nI i) (nI w) I (Gc L) = some (fndE ((List.range 8).find? (good (pl V w) a b i))) := by
  have key : wp (m_127 v (nI a) (nI b) (nI i) (nI w) I (Gc L)) (fun q => q = fndE ((List.range 8).find? (good (pl V w) a b i))) := by
    have h2i : 2 ^ i < 256 := Nat.pow_lt_pow_right (by decide) hi
    unfold m_127
    refine wp_s1 (wp_mono (wp_lpd (Q := fun q => (∃ j, j < 8 ∧ good (pl V w) a b i j = true ∧ (∀ k, k < j → good (pl V w) a b i k = false) ∧ q = nI j) ∨ (q = -2 ∧ ∀ k, k < 8 → good (pl V w) a b i k = false)) (fun m s => s.2 = nI m - nI 1 ∧ ((∃ j, m ≤ j ∧ j < 8 ∧ good (pl V w) a b i j = true ∧ (∀ k, m ≤ k → k < j → good (pl V w) a b i k = false) ∧ s.1 = nI j) ∨ (s.1 = -2 ∧ ∀ k, m ≤ k → k < 8 → good (pl V w) a b i k = false))) 0 8 (by decide) (by decide) ⟨rfl, Or.inr ⟨rfl, fun k k1 k2 => absurd k1 (by omega)⟩⟩ ?_ ?_) ?_)
    · rintro j ⟨x, y⟩ - hj ⟨g1, g2⟩
      dsimp only at g1 g2
      subst g1
      have h2j : 2 ^ j < 256 := Nat.pow_lt_pow_right (by decide) hj
      have hx1 : sd a (2 ^ i) ||| 2 ^ j < 256 := bit_or_lt (sd_lt ha) h2j
      have hy1 : sd b (2 ^ j) ||| 2 ^ i < 256 := bit_or_lt (sd_lt hb) h2i
      rw [i_sub (by omega), Nat.add_sub_cancel]
      unfold m_127_b8
      have es : nI j + (-1 : Int32) = nI j - nI 1 := (Int32.sub_eq_add_neg _ _).symm
      -- no
      have no : good (pl V w) a b i j = false → wp (o_b1 (some (nI j + (-1 : Int32))) (fun x6 => some (Sum.inl (x, x6)))) (lq (fun s : Int32 × Int32 => s.2 = nI j - nI 1 ∧ ((∃ j', j ≤ j' ∧ j' < 8 ∧ good (pl V w) a b i j' = true ∧ (∀ k, j ≤ k → k < j' → good (pl V w) a b i k = false) ∧ s.1 = nI j') ∨ (s.1 = -2 ∧ ∀ k, j ≤ k → k < 8 → good (pl V w) a b i k = false))) (fun q => (∃ j, j < 8 ∧ good (pl V w) a b i j = true ∧ (∀ k, k < j → good (pl V w) a b i k = false) ∧ q = nI j) ∨ (q = -2 ∧ ∀ k, k < 8 → good (pl V w) a b i k = false))) := fun hg => by
        rw [o_b1_s, wp_s, lq_l]
        refine ⟨es, ?_⟩
        rcases g2 with ⟨j', j1, j2, j3, j4, j5⟩ | ⟨j1, j2⟩
        · refine Or.inl ⟨j', by omega, j2, j3, fun k k1 k2 => ?_, j5⟩
          by_cases c : k = j
          · rw [c]
            exact hg
          · exact j4 k (by omega) k2
        · refine Or.inr ⟨j1, fun k k1 k2 => ?_⟩
          by_cases c : k = j
          · rw [c]
            exact hg
          · exact j2 k (by omega) k2
      have yes : good (pl V w) a b i j = true → wp (o_b1 (some (nI j + (-1 : Int32))) (fun x6 => some (Sum.inl (nI j, x6)))) (lq (fun s : Int32 × Int32 => s.2 = nI j - nI 1 ∧ ((∃ j', j ≤ j' ∧ j' < 8 ∧ good (pl V w) a b i j' = true ∧ (∀ k, j ≤ k → k < j' → good (pl V w) a b i k = false) ∧ s.1 = nI j') ∨ (s.1 = -2 ∧ ∀ k, j ≤ k → k < 8 → good (pl V w) a b i k = false))) (fun q => (∃ j, j < 8 ∧ good (pl V w) a b i j = true ∧ (∀ k, k < j → good (pl V w) a b i k = false) ∧ q = nI j) ∨ (q = -2 ∧ ∀ k, k < 8 → good (pl V w) a b i k = false))) := fun hg => by
        rw [o_b1_s, wp_s, lq_l]
        exact ⟨es, Or.inl ⟨j, Nat.le_refl _, hj, hg, fun k k1 k2 => absurd k1 (by omega), rfl⟩⟩
      rw [q_n0 (by omega), i_shl (by decide) (show i < 9 by omega), i_shl (by decide) (show j < 9 by omega), Nat.one_mul, Nat.one_mul, i_sd, i_or, o_b1_s, i_sd, i_or, o_b1_s, k_has hb hj, o_b1_s, q_bz]
      unfold m_127_j81 m_127_j82
      rw [q_00, q_10]
      by_cases d1 : b.testBit j = true
      · rw [if_pos d1, k_has ha hj, o_b1_s, q_bz]
        by_cases d2 : a.testBit j = true
        · rw [if_pos d2]
          exact no (by unfold good; rw [d2, Bool.not_true, Bool.and_false, Bool.false_and])
        · have d2' : a.testBit j = false := Bool.eq_false_iff.2 d2
          rw [if_neg d2, ex_x c1 d2', ex_y c2 d1]
          rw [ex_x c1 d2'] at hx1
          rw [ex_y c2 d1] at hy1
          rw [k_isB hv h hx1, o_b1_s, q_bz]
          by_cases d3 : V (a ^^^ (2 ^ i ||| 2 ^ j)) ≠ NO
          · rw [if_pos d3, k_isB hv h hy1, o_b1_s, q_bz]
            by_cases d4 : V (b ^^^ (2 ^ i ||| 2 ^ j)) ≠ NO
            · rw [if_pos d4]
              rcases (by omega : w = 0 ∨ w = 1) with rfl | rfl
              · rw [q_00, ay_in hv hx1 (by decide), o_g_t, ay_in hv hy1 (by decide), o_g_t, ay_in hv ha (by decide), o_g_t, ay_in hv hb (by decide), o_g_t, i_cl (by omega), i_cl (by omega), i_cl (by omega), i_cl (by omega), h _ hx1, h _ hy1, h _ ha, h _ hb]
                by_cases d5 : V (a ^^^ (2 ^ i ||| 2 ^ j)) + V (b ^^^ (2 ^ i ||| 2 ^ j)) < V a + V b
                · rw [if_pos d5]
                  refine no ?_
                  show good V a b i j = false
                  unfold good
                  rw [decide_eq_true d5, Bool.not_true, Bool.and_false, Bool.and_false, Bool.and_false]
                · rw [if_neg d5]
                  refine yes ?_
                  show good V a b i j = true
                  unfold good
                  rw [d1, d2', decide_eq_true d3, decide_eq_true d4, decide_eq_false d5]
                  rfl
              · rw [q_10]
                refine yes ?_
                rw [gd_pl (by decide) hVa hVb, d1, d2', decide_eq_true d3, decide_eq_true d4]
                rfl
            · rw [if_neg d4]
              refine no ?_
              have d4' : pl V w (b ^^^ (2 ^ i ||| 2 ^ j)) = NO := pl_no.2 (Decidable.of_not_not d4)
              unfold good
              rw [d4', decide_eq_false (fun h9 => h9 rfl : ¬ NO ≠ NO), Bool.false_and, Bool.and_false, Bool.and_false]
          · rw [if_neg d3]
            refine no ?_
            have d3' : pl V w (a ^^^ (2 ^ i ||| 2 ^ j)) = NO := pl_no.2 (Decidable.of_not_not d3)
            unfold good
            rw [d3', decide_eq_false (fun h9 => h9 rfl : ¬ NO ≠ NO), Bool.false_and, Bool.and_false]
      · rw [if_neg d1]
        exact no (by unfold good; rw [Bool.eq_false_iff.2 d1, Bool.false_and, Bool.false_and])
    · rintro ⟨x, y⟩ ⟨g1, g2⟩
      dsimp only at g1 g2
      subst g1
      unfold m_127_b8
      dsimp only
      rw [if_pos (by decide), wp_s, lq_r]
      rcases g2 with ⟨j, j1, j2, j3, j4, j5⟩ | ⟨j1, j2⟩
      · exact Or.inl ⟨j, j2, j3, fun k hk => j4 k (by omega) hk, j5⟩
      · exact Or.inr ⟨j1, fun k hk => j2 k (by omega) hk⟩
    · intro q hq
      unfold m_127_x8_128
      rw [wp_s]
      exact fndE_of hq
  obtain ⟨q, e, rfl⟩ := key
  exact e
end
