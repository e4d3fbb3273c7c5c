/-! The law's test of spaces. -/
/-- what the law keeps: the class's shelves and prices, its own arrays up to z, the script -/
def SK (z : Nat) (I J : ai_I) : Prop := ∀ c, (c < 43 ∨ (74 < c ∧ c ≤ z) ∨ c = 1999) → J c = I c
theorem SK_rf {z : Nat} {I : ai_I} : SK z I I := fun _ _ => rfl
theorem SK_tr {z : Nat} {I J K : ai_I} (h : SK z I J) (h2 : SK z J K) : SK z I K := fun c hc => (h2 c hc).trans (h c hc)
theorem SK_sm {z : Nat} {I J : ai_I} (h : SM I J) (hz : z < 1999) : SK z I J := fun c hc => h c (by omega)
theorem SK_ot {z x : Nat} {I J : ai_I} (h : ot I J x) (hx : z < x) (hx2 : 74 < x) (hx3 : x < 1999) : SK z I J := fun c hc => h c (by omega)
theorem SK_smr {z x : Nat} {I J : ai_I} (h : SMr I J x) (hx : z < x) (hx2 : 74 < x) (hx3 : x < 1999) : SK z I J := fun c hc => h c (by omega) (by omega)
theorem KA_sk {I J : ai_I} {A : SV} {z : Nat} (h : KA I A) (e : SK z I J) : KA J A := KA_f h (fun c _ h2 => e c (by omega))
section
variable {I J : ai_I} {t s v p m n r x : Nat} {L : ai_G} {A : SV} {V P : Nat → Int32}
theorem hvo_e {a e : Nat} : hvo V x e a = if x.testBit e = false ∧ V (x ||| 2 ^ e) ≠ NO then a ||| 2 ^ e else a := by
  unfold hvo
  by_cases c1 : x.testBit e = true
  · rw [if_pos c1, if_neg (fun h9 => by rw [c1] at h9; cases h9.1)]
  · rw [if_neg c1]
    by_cases c2 : V (x ||| 2 ^ e) ≠ NO
    · rw [if_pos c2, if_pos ⟨not_tb c1, c2⟩]
    · rw [if_neg c2, if_neg (fun h9 => c2 h9.2)]
/-- the numbers of a row -/
def nmH (V : Nat → Int32) (x k e : Nat) : Int32 := if (hvs V x k).testBit e = true then V (x ||| 2 ^ e) else 0
theorem k_sp99 {I0 : ai_I} (hn : n ≤ 8) (hv : ary L v 256) (hm : ary L m 8) (hvm : ¬ v = m) (hV : HV J v V) (hx : x < 256) (hz : ∀ e, e < 8 → J m e = 0) : wp (lp (fun s => m_131_b99 (nI n) v (nI x) (Gc L) m s.1 s.2.1 s.2.2) o_N (nI 0, nI 0, J)) (fun q => q.1 = nI (hvs V x n) ∧ ot J q.2 m ∧ ∀ e, e < 8 → q.2 m e = nmH V x n e) := by
  refine wp_lp (fun k z => z.1 = nI (hvs V x k) ∧ z.2.1 = nI k ∧ ot J z.2.2 m ∧ ∀ e, e < 8 → z.2.2 m e = nmH V x k e) 0 n (Nat.zero_le _) (by omega) ⟨rfl, rfl, fun _ _ => rfl, fun e he => by
    dsimp only
    rw [hz e he]
    unfold nmH
    rw [hvs_tb, decide_eq_false (Nat.not_lt_zero e), Bool.false_and, if_neg Bool.false_ne_true]⟩ ?_ ?_
  · rintro k ⟨w, y, K⟩ hk ⟨g1, g2, g3, g4⟩
    dsimp only at g1 g2 g3 g4
    subst g1
    subst g2
    have hk8 : k < 8 := by omega
    have h2k : 2 ^ k < 256 := Nat.pow_lt_pow_right (a := 2) (by decide) hk8
    have hxk : x ||| 2 ^ k < 256 := bit_or_lt hx h2k
    have hKV : HV K v V := HV_of hV (g3 v hvm)
    have hsame : hvs V x (k + 1) = hvs V x k → ∀ e, nmH V x (k + 1) e = nmH V x k e := fun h9 e => by
      unfold nmH
      rw [h9]
    unfold m_131_b99
    dsimp only
    rw [q_leF (by omega) hk, k_has hx (by omega), o_b1_s, q_bz]
    by_cases c1 : x.testBit k = true
    · have e1 : hvs V x (k + 1) = hvs V x k := by rw [hvs_succ, hvo_e, if_neg (fun h9 => by rw [c1] at h9; cases h9.1)]
      rw [if_pos c1, i_add, o_b1_s, wp_s, lq_l]
      exact ⟨by rw [e1], rfl, g3, fun e he => by rw [hsame e1]; exact g4 e he⟩
    · have c1' := not_tb c1
      rw [if_neg c1, i_shl (by decide) (show k < 9 by omega), Nat.one_mul, i_or, k_isB hv hKV hxk, o_b1_s, q_bz]
      by_cases c2 : V (x ||| 2 ^ k) ≠ NO
      · have e1 : hvs V x (k + 1) = hvs V x k ||| 2 ^ k := by rw [hvs_succ, hvo_e, if_pos ⟨c1', c2⟩]
        rw [if_pos c2, i_or, o_b1_s, ay_in hv hxk (by decide), o_g_t, ay_in hm (by omega) (by decide), o_g_t, i_cl (by omega), i_cl (by omega), hKV _ hxk, o_b1_s, i_add, o_b1_s, wp_s, lq_l]
        refine ⟨by rw [e1], rfl, fun c hc => (up_ne hc).trans (g3 c hc), fun e he => ?_⟩
        dsimp only
        rw [up_eq]
        by_cases d : e = k
        · rw [d, up_eq]
          unfold nmH
          rw [hvs_tb, decide_eq_true (Nat.lt_succ_self k), c1', decide_eq_true c2, if_pos (by decide)]
        · rw [up_ne d, g4 e he]
          unfold nmH
          rw [e1, Nat.testBit_or, Nat.testBit_two_pow, decide_eq_false (fun h9 => d h9.symm), Bool.or_false]
      · have e1 : hvs V x (k + 1) = hvs V x k := by rw [hvs_succ, hvo_e, if_neg (fun h9 => c2 h9.2)]
        rw [if_neg c2, i_add, o_b1_s, wp_s, lq_l]
        exact ⟨by rw [e1], rfl, g3, fun e he => by rw [hsame e1]; exact g4 e he⟩
  · rintro ⟨w, y, K⟩ ⟨g1, g2, g3, g4⟩
    dsimp only at g1 g2 g3 g4
    subst g1
    subst g2
    unfold m_131_b99
    dsimp only
    rw [q_leT (by omega) (Nat.le_refl _), wp_s, lq_r]
    exact ⟨rfl, g3, g4⟩
theorem k_sp166 {num : Nat → Int32} {hav : Nat} (hW : WF n r V) (hv : ary L v 256) (hm : ary L m 8) (hV : HV J v V) (hP : ∀ e, e < 8 → J m e = num e ∧ -1000000 ≤ (num e).toInt ∧ (num e).toInt ≤ 1000000) (hh : hav < 256) : wp (lp (fun s => m_131_b166 (nI n) (nI r) v (Gc L) m (nI hav) J s.1 s.2) o_N (nI 1, nI 0)) (fun q => q = bz (fln (flq V num hav r) (2 ^ n) = 0)) := by
  have hn8 := hW.2.1
  have hr := hW.2.2.2.1
  have h8 := p2_le hn8
  have hsh : nI 1 <<< (nI n &&& 31) = nI (2 ^ n) := by rw [i_shl (by decide) (by omega), Nat.one_mul]
  refine wp_lp (fun k z => z.1 = bz (fln (flq V num hav r) k = 0) ∧ z.2 = nI k) 0 (2 ^ n) (Nat.zero_le _) (by omega) ⟨rfl, rfl⟩ ?_ ?_
  · rintro k ⟨w, y⟩ hk ⟨g1, g2⟩
    dsimp only at g1 g2
    rw [g1, g2]
    unfold m_131_b166
    rw [hsh, q_leF (by omega) hk, q_bz]
    by_cases c0 : fln (flq V num hav r) k = 0
    · have hpc := pc_le k
      rw [if_pos c0, s_331 (by omega), o_b1_s, i_add, q_eq (by omega) (by omega)]
      by_cases c1 : pc k = r + 1
      · rw [if_pos c1, k_twice hW hv hV hm hP hh (show k < 256 by omega), o_b1_s, q_bz]
        by_cases c2 : (tws V num hav k).2 = 1
        · have e1 : flq V num hav r k = true := by
            unfold flq
            rw [decide_eq_true c1, decide_eq_true c2]
            rfl
          rw [if_neg (fun h9 => h9 c2), i_add, o_b1_s, wp_s, lq_l]
          exact ⟨(bz_f (by rw [fln_succ, if_pos e1]; omega)).symm, rfl⟩
        · have e1 : flq V num hav r k = false := by
            unfold flq
            rw [decide_eq_false c2, Bool.and_false]
          rw [if_pos c2, i_add, o_b1_s, wp_s, lq_l]
          exact ⟨(bz_t (by rw [fln_succ, e1, if_neg Bool.false_ne_true]; exact c0)).symm, rfl⟩
      · have e1 : flq V num hav r k = false := by
          unfold flq
          rw [decide_eq_false c1, Bool.false_and]
        rw [if_neg c1, i_add, o_b1_s, wp_s, lq_l]
        exact ⟨(bz_t (by rw [fln_succ, e1, if_neg Bool.false_ne_true]; exact c0)).symm, rfl⟩
    · rw [if_neg c0, i_add, o_b1_s, wp_s, lq_l]
      refine ⟨(bz_f (fun h9 => ?_)).symm, rfl⟩
      rw [fln_succ] at h9
      split at h9 <;> omega
  · rintro ⟨w, y⟩ ⟨g1, g2⟩
    dsimp only at g1 g2
    rw [g1, g2]
    unfold m_131_b166
    rw [hsh, q_leT (by omega) (Nat.le_refl _), wp_s, lq_r]
theorem nmH_b (hW : WF n r V) (hx : x < 2 ^ n) {e : Nat} (he : e < 8) : -1000000 ≤ (nmH V x n e).toInt ∧ (nmH V x n e).toInt ≤ 1000000 := by
  have h8 := p2_le hW.2.1
  have h2e : 2 ^ e < 256 := Nat.pow_lt_pow_right (a := 2) (by decide) he
  unfold nmH
  by_cases c : (hvs V x n).testBit e = true
  · rw [if_pos c]
    rw [hvs_tb, Bool.and_eq_true, Bool.and_eq_true] at c
    exact WF_b hW (bit_or_lt (by omega) h2e) (of_decide_eq_true c.2.2)
  · rw [if_neg c]
    decide
theorem pc_cnt6 : ∀ n, n < 7 → ∀ k, k < 9 → ((List.range (2 ^ n)).filter (fun y => decide (pc y = k))).length ≤ 20 := by decide +kernel
theorem tws_255 {num : Nat → Int32} {k : Nat} (hk : k < 2 ^ n) (hn : n ≤ 8) : tws V num 255 k = tws V num (2 ^ n - 1) k := by
  have h8 := p2_le hn
  have e : k &&& 255 = k &&& (2 ^ n - 1) := by
    rw [show (255 : Nat) = 2 ^ 8 - 1 from rfl, Nat.and_two_pow_sub_one_eq_mod, Nat.and_two_pow_sub_one_eq_mod, Nat.mod_eq_of_lt hk, Nat.mod_eq_of_lt (show k < 2 ^ 8 by omega)]
  unfold tws
  refine fd_congr (fun y _ a => ?_)
  unfold twc
  rw [e]
theorem spq_no {k : Nat} (h : ¬ pc k = r - 1) : pFz V (r - 1) k = false ∧ spq V n r k = false := by
  have h1 : pFz V (r - 1) k = false := by
    unfold pFz
    rw [decide_eq_false h, Bool.false_and]
  refine ⟨h1, ?_⟩
  unfold spq
  rw [h1, Bool.false_and]
end
