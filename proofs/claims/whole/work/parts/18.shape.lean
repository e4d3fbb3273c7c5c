/-! Closures, flats, circuits; the k-th of a list, on both sides. -/
theorem p2_lt {e : Nat} (he : e < 8) : 2 ^ e < 256 := by
  have h : ∀ e, e < 8 → 2 ^ e < 256 := by decide
  exact h e he
theorem i_dec (m : Nat) : nI (m + 1) + (-1 : Int32) = nI m := by
  have h := nI_pred m
  rw [Int32.sub_eq_add_neg] at h
  exact h
theorem i_ltp {m : Nat} (h0 : 0 < m) (hm : m < 2147483648) (x : Int32) : x < nI m ↔ x ≤ nI (m - 1) := by
  rw [Int32.lt_iff_toInt_lt, Int32.le_iff_toInt_le, nI_toInt hm, nI_toInt (by omega)]
  omega
/-- a search over places: the first bad one, or none -/
theorem lp_all {ρ : Type} {b : Int32 → Option (Int32 ⊕ ρ)} (bad : Nat → Bool) (q1 q2 : ρ) (N : Nat) (hN : N < 2000000) (hs : ∀ i, i < N → b (nI i) = some (if bad i = true then .inr q1 else .inl (nI (i + 1)))) (he : b (nI N) = some (.inr q2)) : lp b o_N (nI 0) = some (if (List.range N).all (fun e => !bad e) = true then q2 else q1) := by
  have h := lp_fs_o (b := b) (fun i (_ : Unit) => nI i) (fun i a => if bad i = true then .inr q1 else .inl a) (fun _ => q2) (fun _ _ => True) N () (fun i a hi _ => by
    by_cases hb : bad i = true
    · refine ⟨fun a2 e => ?_, fun r e => ?_⟩
      · rw [if_pos hb] at e
        cases e
      · rw [if_pos hb] at e
        cases e
        rw [hs i hi, if_pos hb]
    · refine ⟨fun a2 e => ⟨trivial, ?_⟩, fun r e => ?_⟩
      · rw [hs i hi, if_neg hb]
      · rw [if_neg hb] at e
        cases e) (fun _ _ => he) trivial hN
  rw [h]
  have key : ∀ l : List Nat, ls (ρ := ρ) (fun i a => if bad i = true then .inr q1 else .inl a) l () = if l.all (fun e => !bad e) = true then .inl () else .inr q1 := by
    intro l
    induction l with
    | nil => rfl
    | cons x l ih =>
      unfold ls
      by_cases hb : bad x = true
      · rw [if_pos hb]
        simp [hb]
      · rw [if_neg hb]
        show ls _ l () = _
        rw [ih]
        simp [hb]
  rw [key]
  by_cases hc : (List.range N).all (fun e => !bad e) = true
  · rw [if_pos hc, if_pos hc]
  · rw [if_neg hc, if_neg hc]
theorem nth_up {ρ : Type} (p : Nat → Bool) (g : Nat → ρ) (k : Nat) : ∀ (l : List Nat) (n : Nat), n ≤ k → ls (fun x n => if p x = true then (if n = k then .inr (g x) else .inl (n + 1)) else .inl n) l n = match (l.filter p)[k - n]? with
    | some x => .inr (g x)
    | none => .inl (n + (l.filter p).length)
  | [], n, h => by simp [ls]
  | x :: l, n, h => by
    unfold ls
    by_cases hp : p x = true
    · rw [if_pos hp, List.filter_cons_of_pos hp]
      by_cases hn : n = k
      · rw [if_pos hn]
        subst hn
        simp
      · rw [if_neg hn]
        obtain ⟨j, hj⟩ : ∃ j, k - n = j + 1 := ⟨k - n - 1, by omega⟩
        show ls _ l (n + 1) = _
        rw [nth_up p g k l (n + 1) (by omega), hj, show k - (n + 1) = j by omega, List.getElem?_cons_succ, List.length_cons, show n + ((l.filter p).length + 1) = n + 1 + (l.filter p).length by omega]
    · rw [if_neg hp, List.filter_cons_of_neg hp]
      exact nth_up p g k l n h
theorem nth_dn {ρ : Type} (p : Nat → Bool) (g : Nat → ρ) : ∀ (l : List Nat) (m : Nat), ls (fun x m => if p x = true then (if m = 0 then .inr (g x) else .inl (m - 1)) else .inl m) l m = match (l.filter p)[m]? with
    | some x => .inr (g x)
    | none => .inl (m - (l.filter p).length)
  | [], m => by simp [ls]
  | x :: l, m => by
    unfold ls
    by_cases hp : p x = true
    · rw [if_pos hp, List.filter_cons_of_pos hp]
      by_cases hm : m = 0
      · rw [if_pos hm]
        subst hm
        simp
      · rw [if_neg hm]
        obtain ⟨j, rfl⟩ : ∃ j, m = j + 1 := ⟨m - 1, by omega⟩
        show ls _ l (j + 1 - 1) = _
        rw [nth_dn p g l, List.getElem?_cons_succ, List.length_cons, show j + 1 - 1 = j by omega, show j + 1 - ((l.filter p).length + 1) = j - (l.filter p).length by omega]
    · rw [if_neg hp, List.filter_cons_of_neg hp]
      exact nth_dn p g l m
/-- closure; circuits -/
def clo (V : Nat → Int32) (n set : Nat) : Nat := fd (fun e a => if rk V (set ||| 2 ^ e) = rk V set then a ||| 2 ^ e else a) (List.range n) set
def bad (V : Nat → Int32) (set e : Nat) : Bool := set.testBit e && !decide (rk V (set ^^^ 2 ^ e) = pc (set ^^^ 2 ^ e))
def circ (V : Nat → Int32) (set : Nat) : Bool := !decide (rk V set = pc set) && (List.range 8).all (fun e => !bad V set e)
theorem clo_lt {V : Nat → Int32} {n set : Nat} (hn : n ≤ 8) (hs : set < 256) : clo V n set < 256 := fd_P (fun a => a < 256) hs (fun e he a ha => by
  show (if rk V (set ||| 2 ^ e) = rk V set then a ||| 2 ^ e else a) < 256
  have h2 := p2_lt (e := e) (by have := List.mem_range.1 he; omega)
  split
  · exact bit_or_lt ha h2
  · exact ha)
theorem tb_hi {set n e : Nat} (hs : set < 2 ^ n) (he : n ≤ e) : set.testBit e = false := Nat.testBit_lt_two_pow (Nat.lt_of_lt_of_le hs (Nat.pow_le_pow_right (by decide) he))
section
variable {I : ai_I} {t L s n : Nat}
theorem s_197 (hs : s < 12) (hn : n ≤ 8) (h : I 76 (258 * s) = nI n) : m_197 75 (nI s) I (Rc t) (Gc L) = some (nI (2 ^ n - 1)) := by
  unfold m_197
  rw [s_195 hs, o_b1_s, h, i_shl (by decide) (by omega), Nat.one_mul, i_sub (Nat.two_pow_pos n)]
theorem s_201 (hs : s < 12) (hn : n ≤ 8) (h : I 76 (258 * s) = nI n) (x : Int32) : m_201 75 (nI s) x I (Rc t) (Gc L) = some (bz (nI 0 ≤ x ∧ x ≤ nI (2 ^ n - 1))) := by
  unfold m_201
  rw [s_197 hs hn h, o_b1_s, j_lit.2.1, s_189i, o_b1_s, bz_bz, o_g_t]
theorem s_252 {set : Nat} (hs : s < 12) (hset : set < 256) : m_252 75 (nI s) (nI set) I (Rc t) (Gc L) = some (bz (rk (FV I s) set = pc set)) := by
  have h1 := rk_le (FV I s) set
  have h2 := pc_le set
  unfold m_252
  rw [s_250 hs hset, o_b1_s, s_193 hset, o_b1_s, q_eq (by omega) (by omega)]
  by_cases h : rk (FV I s) set = pc set
  · rw [if_pos h, bz_t h]
  · rw [if_neg h, bz_f h]
theorem s_251 {set : Nat} (hs : s < 12) (hn : n ≤ 8) (h : I 76 (258 * s) = nI n) (hset : set < 256) : m_251 75 (nI s) (nI set) I (Rc t) (Gc L) = some (nI (clo (FV I s) n set)) := by
  unfold m_251
  rw [s_250 hs hset, o_b1_s]
  refine lp_fd_s1 (fun k a => (nI a, nI k)) (fun e a => if rk (FV I s) (set ||| 2 ^ e) = rk (FV I s) set then a ||| 2 ^ e else a) (fun a => nI a) (fun _ a => a < 256) n set ?_ ?_ hset (by omega) rfl
  · intro e a he ha
    have hp := p2_lt (e := e) (by omega)
    have ho := bit_or_lt hset hp
    have h1 := rk_le (FV I s) (set ||| 2 ^ e)
    have h2 := rk_le (FV I s) set
    refine ⟨by split; exact bit_or_lt ha hp; exact ha, ?_⟩
    show m_251_b13 75 (nI s) (nI set) I (Rc t) (Gc L) (nI (rk (FV I s) set)) (nI a) (nI e) = _
    unfold m_251_b13
    rw [s_195 hs, o_b1_s, h, q_leF (by omega) he, i_shl (by decide) (by omega), Nat.one_mul, i_or, s_250 hs ho, o_b1_s, q_eq (by omega) (by omega)]
    by_cases hc : rk (FV I s) (set ||| 2 ^ e) = rk (FV I s) set
    · rw [if_pos hc, if_pos hc, i_or, o_b1_s, o_b1_s, i_add]
    · rw [if_neg hc, if_neg hc, o_b1_s, i_add]
  · intro a ha
    show m_251_b13 75 (nI s) (nI set) I (Rc t) (Gc L) (nI (rk (FV I s) set)) (nI a) (nI n) = _
    unfold m_251_b13
    rw [s_195 hs, o_b1_s, h, q_leT (by omega) (by omega)]
theorem s_253 {set : Nat} (hs : s < 12) (hn : n ≤ 8) (h : I 76 (258 * s) = nI n) (hset : set < 256) : m_253 75 (nI s) (nI set) I (Rc t) (Gc L) = some (bz (clo (FV I s) n set = set)) := by
  have h1 := clo_lt (V := FV I s) hn hset
  unfold m_253
  rw [s_251 hs hn h hset, o_b1_s, q_eq (by omega) (by omega)]
  by_cases hc : clo (FV I s) n set = set
  · rw [if_pos hc, bz_t hc]
  · rw [if_neg hc, bz_f hc]
theorem s_254 {set : Nat} (hs : s < 12) (hset : set < 256) : m_254 75 (nI s) (nI set) I (Rc t) (Gc L) = some (bz (circ (FV I s) set = true)) := by
  unfold m_254
  rw [s_252 hs hset, o_b1_s, q_bz]
  by_cases hf : rk (FV I s) set = pc set
  · rw [if_pos hf, bz_f (by unfold circ; simp [hf])]
  · rw [if_neg hf, lp_all (bad (FV I s) set) (.inl ()) (.inr ()) 8 (by decide) ?_ ?_]
    · by_cases hc : (List.range 8).all (fun e => !bad (FV I s) set e) = true
      · rw [if_pos hc, o_s2_r, bz_t (by unfold circ; rw [hc]; simp [hf])]
        rfl
      · rw [if_neg hc, o_s2_l, bz_f (by unfold circ; simp only [Bool.and_eq_true]; exact fun h => hc h.2)]
        rfl
    · intro e he
      have hp := p2_lt he
      have hx := bit_xor_lt hset hp
      unfold m_254_b13
      rw [q_leF (by omega) he, s_192 hset (by omega), o_b1_s, q_bz, i_shl (by decide) (by omega), Nat.one_mul, i_xor, s_252 hs hx, o_b1_s, q_bz, o_b1_s, i_add]
      by_cases h1 : set.testBit e = true
      · by_cases h2 : rk (FV I s) (set ^^^ 2 ^ e) = pc (set ^^^ 2 ^ e)
        · rw [if_pos h1, if_pos h2, if_neg (by unfold bad; simp [h2])]
        · rw [if_pos h1, if_neg h2, if_pos (by unfold bad; simp [h1, h2])]
      · rw [if_neg h1, if_neg (by unfold bad; simp [h1])]
    · unfold m_254_b13
      rw [q_leT (by decide) (Nat.le_refl _)]
end
section
variable {I : ai_I} {t L v n r : Nat} {V : Nat → Int32}
theorem c_121' (hn : n ≤ 8) (h : I v 0 = nI n) (x : Int32) : m_121 v x I = some (bz (nI 0 ≤ x ∧ x ≤ nI (2 ^ n - 1))) := by
  have h8 := p2_le hn
  rw [c_121 hn h]
  refine congrArg some (bz_c ?_)
  rw [i_ltp (Nat.two_pow_pos n) (by omega)]
  exact Iff.rfl
theorem c_70 (hv : v ∈ VC) (hW : WF n r V) (h : CS I v n r V) {set : Nat} (hset : set < 256) : m_70 v (nI set) I (Rc t) (Gc L) = some (nI (clo V n set)) := by
  have hn := hW.2.1
  unfold m_70
  refine lp_fd_s1 (fun k a => (nI a, nI k)) (fun e a => if rk V (set ||| 2 ^ e) = rk V set then a ||| 2 ^ e else a) (fun a => nI a) (fun _ a => a < 256) n set ?_ ?_ hset (by omega) rfl
  · intro e a he ha
    have hp := p2_lt (e := e) (by omega)
    have ho := bit_or_lt hset hp
    have h1 := rk_le V (set ||| 2 ^ e)
    have h2 := rk_le V set
    refine ⟨by split; exact bit_or_lt ha hp; exact ha, ?_⟩
    show m_70_b4 v (nI set) I (Rc t) (Gc L) (nI a) (nI e) = _
    unfold m_70_b4
    rw [v_kd hv, o_g_t, h.1, q_leF (by omega) he, v_rr hv, i_shl (by decide) (by omega), Nat.one_mul, i_or, v_gr hv ho, o_g_t, v_gr hv hset, o_g_t, i_cl (by omega), i_cl (by omega), h.2.2.2.2.1 _ ho, h.2.2.2.2.1 _ hset, q_eq (by omega) (by omega)]
    by_cases hc : rk V (set ||| 2 ^ e) = rk V set
    · rw [if_pos hc, if_pos hc, i_or, o_b1_s, o_b1_s, i_add]
    · rw [if_neg hc, if_neg hc, o_b1_s, i_add]
  · intro a ha
    show m_70_b4 v (nI set) I (Rc t) (Gc L) (nI a) (nI n) = _
    unfold m_70_b4
    rw [v_kd hv, o_g_t, h.1, q_leT (by omega) (by omega)]
theorem c_73 (hv : v ∈ VC) (hW : WF n r V) (h : CS I v n r V) {set : Nat} (hset : set < 2 ^ n) : m_73 v (nI set) I (Rc t) (Gc L) = some (bz (circ V set = true)) := by
  have hn := hW.2.1
  have hs2 : set < 256 := Nat.lt_of_lt_of_le hset (p2_le hn)
  unfold m_73
  rw [v_kd hv, o_g_t, c_123 hv h hs2, o_b1_s, q_bz]
  have hall : (List.range n).all (fun e => !bad V set e) = (List.range 8).all (fun e => !bad V set e) := by
    rw [Bool.eq_iff_iff, List.all_eq_true, List.all_eq_true]
    constructor
    · intro h1 e he
      by_cases hen : e < n
      · exact h1 e (List.mem_range.2 hen)
      · unfold bad
        rw [tb_hi hset (by omega)]
        rfl
    · intro h1 e he
      exact h1 e (List.mem_range.2 (by have := List.mem_range.1 he; omega))
  by_cases hf : rk V set = pc set
  · rw [if_pos hf, bz_f (by unfold circ; simp [hf])]
  · rw [if_neg hf, lp_all (bad V set) (.inl ()) (.inr ()) n (by omega) ?_ ?_]
    · rw [hall]
      by_cases hc : (List.range 8).all (fun e => !bad V set e) = true
      · rw [if_pos hc, o_s2_r, bz_t (by unfold circ; rw [hc]; simp [hf])]
        rfl
      · rw [if_neg hc, o_s2_l, bz_f (by unfold circ; simp only [Bool.and_eq_true]; exact fun h => hc h.2)]
        rfl
    · intro e he
      have hp := p2_lt (e := e) (by omega)
      have hx := bit_xor_lt hs2 hp
      unfold m_73_b12
      rw [h.1, q_leF (by omega) he, c_183 hs2 (by omega), o_b1_s, q_bz, i_shl (by decide) (by omega), Nat.one_mul, i_xor, c_123 hv h hx, o_b1_s, q_bz, o_b1_s, i_add]
      by_cases h1 : set.testBit e = true
      · by_cases h2 : rk V (set ^^^ 2 ^ e) = pc (set ^^^ 2 ^ e)
        · rw [if_pos h1, if_pos h2, if_neg (by unfold bad; simp [h2])]
        · rw [if_pos h1, if_neg h2, if_pos (by unfold bad; simp [h1, h2])]
      · rw [if_neg h1, if_neg (by unfold bad; simp [h1])]
    · unfold m_73_b12
      rw [h.1, q_leT (by omega) (Nat.le_refl _)]
end
