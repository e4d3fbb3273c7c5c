/-! Out of whole's part 18.shape, by wip/p46/extract.py. -/
theorem p2_lt {e : Nat} (he : e < 8) : 2 ^ e < 256 := by
  have h : ∀ e, e < 8 → 2 ^ e < 256 := by decide
  exact h e he
theorem i_dec (m : Nat) : nI (m + 1) + (-1 : Int32) = nI m := by
  have h := nI_pred m
  rw [Int32.sub_eq_add_neg] at h
  exact h
theorem i_ltp {m : Nat} (h0 : 0 < m) (hm : m < 2147483648) (x : Int32) : x < nI m ↔ x ≤ nI (m - 1) := by
  rw [Int32.lt_iff_toInt_lt, Int32.le_iff_toInt_le, nI_toInt hm, nI_toInt (by omega)]
  omega
theorem nth_dn {ρ : Type} (p : Nat → Bool) (g : Nat → ρ) : ∀ (l : List Nat) (m : Nat), ls (fun x m => if p x = true then (if m = 0 then .inr (g x) else .inl (m - 1)) else .inl m) l m = match (l.filter p)[m]? with
    | some x => .inr (g x)
    | none => .inl (m - (l.filter p).length)
  | [], m => by simp [ls]
  | x :: l, m => by
    unfold ls
    by_cases hp : p x = true
    · rw [if_pos hp, List.filter_cons_of_pos hp]
      by_cases hm : m = 0
      · rw [if_pos hm]
        subst hm
        simp
      · rw [if_neg hm]
        obtain ⟨j, rfl⟩ : ∃ j, m = j + 1 := ⟨m - 1, by omega⟩
        show ls _ l (j + 1 - 1) = _
        rw [nth_dn p g l, List.getElem?_cons_succ, List.length_cons, show j + 1 - 1 = j by omega, show j + 1 - ((l.filter p).length + 1) = j - (l.filter p).length by omega]
    · rw [if_neg hp, List.filter_cons_of_neg hp]
      exact nth_dn p g l m
def bad (V : Nat → Int32) (set e : Nat) : Bool := set.testBit e && !decide (rk V (set ^^^ 2 ^ e) = pc (set ^^^ 2 ^ e))
theorem tb_hi {set n e : Nat} (hs : set < 2 ^ n) (he : n ≤ e) : set.testBit e = false := Nat.testBit_lt_two_pow (Nat.lt_of_lt_of_le hs (Nat.pow_le_pow_right (by decide) he))
section
variable {I : ai_I} {t v n r : Nat} {L : ai_G} {V : Nat → Int32}
theorem c_121' (hn : n ≤ 8) (h : I v 0 = nI n) (x : Int32) : m_88 v x I = some (bz (nI 0 ≤ x ∧ x ≤ nI (2 ^ n - 1))) := by
  have h8 := p2_le hn
  rw [c_121 hn h]
  refine congrArg some (bz_c ?_)
  rw [i_ltp (Nat.two_pow_pos n) (by omega)]
  exact Iff.rfl
end
