/-! The law's test of bases. -/
theorem pf_pre (p : Nat → Bool) (m : Nat) : ∀ N, m ≤ N → ∃ l, (List.range N).filter p = (List.range m).filter p ++ l
  | 0, h => by
    obtain rfl : m = 0 := by omega
    exact ⟨[], rfl⟩
  | N + 1, h => by
    by_cases c : m = N + 1
    · exact ⟨[], by rw [c, List.append_nil]⟩
    · obtain ⟨l, e⟩ := pf_pre p m N (by omega)
      exact ⟨l ++ [N].filter p, by rw [List.range_succ, List.filter_append, e, List.append_assoc]⟩
theorem pf_at {p : Nat → Bool} {k N : Nat} (hk : k < N) (hp : p k = true) : nthE ((List.range N).filter p) (fln p k) = nI k := by
  obtain ⟨l, e⟩ := pf_pre p (k + 1) N hk
  have e1 : [k].filter p = [k] := List.filter_cons_of_pos hp
  rw [e, List.range_succ, List.filter_append, e1]
  unfold nthE fln
  rw [List.getElem?_append_left (by rw [List.length_append]; exact Nat.lt_succ_self _), List.getElem?_append_right (Nat.le_refl _), Nat.sub_self]
  rfl
theorem pf_no {p : Nat → Bool} {N : Nat} : nthE ((List.range N).filter p) (fln p N) = -4 := by
  unfold nthE fln
  rw [List.getElem?_eq_none (Nat.le_refl _)]
/-- bases below k -/
abbrev Bk (V : Nat → Int32) (k : Nat) : List Nat := (List.range k).filter (fun x => decide (V x ≠ NO))
theorem Bk_t {V : Nat → Int32} {k : Nat} (h : V k ≠ NO) : Bk V (k + 1) = Bk V k ++ [k] := by
  rw [show Bk V (k + 1) = _ from BLk k, if_neg h]
theorem Bk_f {V : Nat → Int32} {k : Nat} (h : V k = NO) : Bk V (k + 1) = Bk V k := by
  rw [show Bk V (k + 1) = _ from BLk k, if_pos h]
theorem Bk_lt {V : Nat → Int32} {k c : Nat} (h : c ∈ Bk V k) : c < k ∧ V c ≠ NO := by
  rw [List.mem_filter, List.mem_range] at h
  exact ⟨h.1, of_decide_eq_true h.2⟩
/-- the greatest so far, and where -/
def MO (V : Nat → Int32) (l : List Nat) (m w : Int32) : Prop := (l = [] ∧ m = -99999999 ∧ w = -1) ∨ ∃ b, b ∈ l ∧ m = V b ∧ w = nI b ∧ (∀ c ∈ l, V c ≤ V b) ∧ ∀ c ∈ l, c < b → V c < V b
theorem big_no {x : Int32} (h : -2000000 ≤ x.toInt) : ¬ x ≤ (-99999999 : Int32) := fun h9 => by
  rw [Int32.le_iff_toInt_le, show (-99999999 : Int32).toInt = -99999999 from by decide] at h9
  omega
theorem MO_ad {V : Nat → Int32} {k : Nat} {m w : Int32} (h : MO V (Bk V k) m w) (hk : V k ≠ NO) (hb : -1000000 ≤ (V k).toInt) : MO V (Bk V (k + 1)) (if m < V k then V k else m) (if V k ≤ m then w else nI k) := by
  have hm : ∀ c, c ∈ Bk V (k + 1) → c ∈ Bk V k ∨ c = k := fun c hc => by
    rw [Bk_t hk, List.mem_append, List.mem_singleton] at hc
    exact hc
  have hk1 : k ∈ Bk V (k + 1) := by
    rw [Bk_t hk, List.mem_append, List.mem_singleton]
    exact Or.inr rfl
  rcases h with ⟨h1, h2, h3⟩ | ⟨b, h1, h2, h3, h4, h5⟩
  · subst h2
    have hn := big_no (show -2000000 ≤ (V k).toInt by omega)
    rw [if_pos (Int32.not_le.1 hn), if_neg hn]
    refine Or.inr ⟨k, hk1, rfl, rfl, fun c hc => ?_, fun c hc h9 => ?_⟩
    · rcases hm c hc with h8 | h8
      · rw [h1] at h8
        cases h8
      · rw [h8]
        exact Int32.le_refl _
    · rcases hm c hc with h8 | h8
      · rw [h1] at h8
        cases h8
      · omega
  · subst h2
    by_cases c : V k ≤ V b
    · rw [if_neg (Int32.not_lt.2 c), if_pos c]
      refine Or.inr ⟨b, by rw [Bk_t hk, List.mem_append]; exact Or.inl h1, rfl, h3, fun x hx => ?_, fun x hx h9 => ?_⟩
      · rcases hm x hx with h8 | h8
        · exact h4 x h8
        · rw [h8]
          exact c
      · rcases hm x hx with h8 | h8
        · exact h5 x h8 h9
        · have := (Bk_lt h1).1
          omega
    · have c2 := Int32.not_le.1 c
      rw [if_pos c2, if_neg c]
      refine Or.inr ⟨k, hk1, rfl, rfl, fun x hx => ?_, fun x hx h9 => ?_⟩
      · rcases hm x hx with h8 | h8
        · exact Int32.le_of_lt (Int32.lt_of_le_of_lt (h4 x h8) c2)
        · rw [h8]
          exact Int32.le_refl _
      · rcases hm x hx with h8 | h8
        · exact Int32.lt_of_le_of_lt (h4 x h8) c2
        · omega
section
variable {I : ai_I} {t s v : Nat} {L : ai_G} {A : SV}
theorem k_bases {n r : Nat} (h : KA I A) (hs : s < 4) (hv : ary L v 256) (hV : HV I v (A.2.2.1 s)) (hn : A.1 s = n) (hr : A.2.1 s = r) : m_132 1 (nI s) (nI n) (nI r) v I (Rc t) (Gc L) = some (nI 1, I) := by
  have hW := (KA_s h hs).1
  rw [hn, hr] at hW
  have hn8 := hW.2.1
  have h8 := p2_le hn8
  have h0 := Nat.two_pow_pos n
  have hl := BL_len hW
  have hl0 := BL_pos hW
  have hsh : nI 1 <<< (nI n &&& 31) = nI (2 ^ n) := by rw [i_shl (by decide) (by omega), Nat.one_mul]
  have key : wp (m_132 1 (nI s) (nI n) (nI r) v I (Rc t) (Gc L)) (fun q => q = (nI 1, I)) := by
    unfold m_132
    rw [hsh, i_sub (by omega), o_b1_s]
    refine wp_s1 (wp_lp (fun k z => z.2.2.2.2.2.2 = nI k ∧ z.1 = nI (Bk (A.2.2.1 s) k).length ∧ z.2.1 = nI (fd (fun b a => a ||| b) (Bk (A.2.2.1 s) k) 0) ∧ z.2.2.1 = nI (fd (fun b a => a &&& b) (Bk (A.2.2.1 s) k) (2 ^ n - 1)) ∧ MO (A.2.2.1 s) (Bk (A.2.2.1 s) k) z.2.2.2.1 z.2.2.2.2.1 ∧ z.2.2.2.2.2.1 = nI 1) 0 256 (by decide) (by decide) ⟨rfl, rfl, rfl, rfl, Or.inl ⟨rfl, rfl, rfl⟩, rfl⟩ ?_ ?_)
    · rintro k ⟨z1, z2, z3, z4, z5, z6, z7⟩ hk ⟨g1, g2, g3, g4, g5, g6⟩
      dsimp only at g1 g2 g3 g4 g5 g6
      subst g1
      subst g2
      subst g3
      subst g4
      subst g6
      have hlk : (Bk (A.2.2.1 s) k).length ≤ k := by
        have := List.length_filter_le (fun x => decide (A.2.2.1 s x ≠ NO)) (List.range k)
        rw [List.length_range] at this
        exact this
      unfold m_132_b26
      dsimp only
      rw [q_leF (by omega) hk, k_isB hv hV hk, o_b1_s, q_bz]
      by_cases c : A.2.2.1 s k ≠ NO
      · obtain ⟨w1, w2, -⟩ := hW.2.2.2.2.1 k hk c
        have hb := WF_b hW hk c
        have hbase : m_102 1 (nI s) (nI (Bk (A.2.2.1 s) k).length) I (Rc t) (Gc L) = some (nI k) := by
          rw [k_base h hs (by omega)]
          congr 1
          exact pf_at hk (decide_eq_true c)
        rw [if_pos c, q_10, k_1, o_g_t, hbase, o_b1_s, if_pos rfl, s_331 hk, o_b1_s, w2, if_pos rfl, hsh, q_leF (by omega) w1]
        unfold m_132_j83
        rw [i_add, o_b1_s, i_or, o_b1_s, i_and, o_b1_s, ay_in hv hk (by decide), o_g_t, i_cl (by omega), hV k hk]
        have e1 : (Bk (A.2.2.1 s) (k + 1)).length = (Bk (A.2.2.1 s) k).length + 1 := by
          rw [Bk_t c, List.length_append]
          rfl
        have e2 : fd (fun b a => a ||| b) (Bk (A.2.2.1 s) (k + 1)) 0 = fd (fun b a => a ||| b) (Bk (A.2.2.1 s) k) 0 ||| k := by
          rw [Bk_t c, fd_append]
          rfl
        have e3 : fd (fun b a => a &&& b) (Bk (A.2.2.1 s) (k + 1)) (2 ^ n - 1) = fd (fun b a => a &&& b) (Bk (A.2.2.1 s) k) (2 ^ n - 1) &&& k := by
          rw [Bk_t c, fd_append]
          rfl
        have e4 := MO_ad g5 c hb.1
        unfold m_132_j119
        by_cases d : A.2.2.1 s k ≤ z4
        · rw [if_pos d] at e4
          rw [if_pos d, ay_in hv hk (by decide), o_g_t, i_cl (by omega), hV k hk, o_b1_s, i_add, o_b1_s, wp_s, lq_l]
          exact ⟨rfl, by rw [e1], by rw [e2], by rw [e3], e4, rfl⟩
        · rw [if_neg d] at e4
          rw [if_neg d, ay_in hv hk (by decide), o_g_t, i_cl (by omega), hV k hk, o_b1_s, i_add, o_b1_s, wp_s, lq_l]
          exact ⟨rfl, by rw [e1], by rw [e2], by rw [e3], e4, rfl⟩
      · have c' := Decidable.of_not_not c
        rw [if_neg c, i_add, o_b1_s, wp_s, lq_l, Bk_f c']
        exact ⟨rfl, rfl, rfl, rfl, g5, rfl⟩
    · rintro ⟨z1, z2, z3, z4, z5, z6, z7⟩ ⟨g1, g2, g3, g4, g5, g6⟩
      dsimp only at g1 g2 g3 g4 g5 g6
      subst g1
      subst g2
      subst g3
      subst g4
      subst g6
      unfold m_132_b26
      dsimp only
      rw [q_leT (by decide) (Nat.le_refl _), wp_s, lq_r]
      unfold m_132_x26_139
      dsimp only
      have hbase : m_102 1 (nI s) (nI (Bk (A.2.2.1 s) 256).length) I (Rc t) (Gc L) = some (-4) := by
        rw [k_base h hs (show (Bk (A.2.2.1 s) 256).length < 2147483648 from by
          have : (BL (A.2.2.1 s)).length < 2147483648 := by omega
          exact this)]
        congr 1
        exact pf_no
      rcases g5 with ⟨g5, -⟩ | ⟨b, b1, rfl, rfl, b2, b3⟩
      · have g5 : BL (A.2.2.1 s) = [] := g5
        rw [g5] at hl0
        exact absurd hl0 (Nat.lt_irrefl _)
      · obtain ⟨b', b4, b5⟩ := k_sh3 (t := t) (L := L) h hs
        obtain ⟨b'', b6, b7⟩ := k_sh4 (t := t) (L := L) h hs
        obtain rfl := lgr_one b4 ⟨b1, b2, b3⟩
        obtain rfl := lgr_one b6 b4
        have hlt : 0 < (Bk (A.2.2.1 s) 256).length ∧ (Bk (A.2.2.1 s) 256).length < 2147483648 := ⟨hl0, Nat.lt_of_le_of_lt (show (Bk (A.2.2.1 s) 256).length ≤ 70 from hl) (by decide)⟩
        have hg : ¬ nI (Bk (A.2.2.1 s) 256).length ≤ 0 := fun h9 => by
          rw [i_le0 hlt.2] at h9
          omega
        have e5 : lps (A.2.2.1 s) n = sd (2 ^ n - 1) (fd (fun b a => a ||| b) (Bk (A.2.2.1 s) 256) 0) := (sme_lps _ _).symm
        have k2 : m_100 1 (nI s) (nI 2) I (Rc t) (Gc L) = some (nI (Bk (A.2.2.1 s) 256).length, I) := k_sh2 h hs
        have k6 : m_100 1 (nI s) (nI 6) I (Rc t) (Gc L) = some (nI (fd (fun b a => a &&& b) (Bk (A.2.2.1 s) 256) (2 ^ n - 1)), I) := by
          rw [k_sh6 h hs, hn]
          rfl
        rw [q_10, if_neg hg, k_1, o_g_t, hbase, o_b1_s, if_pos rfl, k2, o_b2_s, if_pos rfl, b5, o_b2_s, if_pos rfl, b7, o_b2_s, if_pos rfl, k_sh5 h hs, o_b2_s, hn, e5, hsh, i_sub (by omega), i_sd, if_pos rfl, k6, o_b2_s, if_pos rfl]
        exact ⟨_, rfl, rfl⟩
  obtain ⟨q, e, rfl⟩ := key
  exact e
end
