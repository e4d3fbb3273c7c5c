/-! Call told. -/
def by8 (x : Int32) : Int32 := x.toInt8.toInt32.toInt8.toInt32
/-- the signs that a side holds -/
def TXB (I : ai_I) (b w f : Nat) (l : List Int32) : Prop := I w f = nI l.length ∧ ∀ j, j < l.length → I b j = l.getD j 0
theorem TXB_add {I J : ai_I} {b w f : Nat} {l : List Int32} {x : Int32} (h : TXB I b w f l) (h1 : J w f = nI (l.length + 1)) (h2 : J b l.length = x) (h3 : ∀ j, j < l.length → J b j = I b j) : TXB J b w f (l ++ [x]) := by
  refine ⟨by rw [h1, List.length_append]; rfl, fun j hj => ?_⟩
  rw [List.length_append, List.length_singleton] at hj
  rw [List.getD_eq_getElem?_getD]
  by_cases e : j < l.length
  · rw [List.getElem?_append_left e, h3 j e, h.2 j e, List.getD_eq_getElem?_getD]
  · obtain rfl : j = l.length := by omega
    rw [List.getElem?_append_right (Nat.le_refl _), Nat.sub_self, h2]
    rfl
theorem ot2_tr {I J K : ai_I} {c d : Nat} (h : ot2 I J c d) (h2 : ot2 J K c d) : ot2 I K c d := fun x a b => (h2 x a b).trans (h x a b)
theorem c_20 {I : ai_I} {t L : Nat} {l : List Int32} {x : Int32} (h : TXB I 48 43 10 l) (hl : l.length < 1024) : wp (m_20 43 x I (Rc t) (Gc L)) (fun J => TXB J 48 43 10 (l ++ [by8 x]) ∧ ot2 I J 43 48) := by
  unfold m_20
  rw [h.1, if_neg (nI_ge hl (by decide)), r_43_9, g_48 hl, o_g_t, o_b1_s, i_cl (by omega), o_b1_s, wp_s]
  refine ⟨TXB_add h ?_ ?_ ?_, fun c c1 c2 => by rw [up_ne c1, up_ne c2]⟩
  · rw [up_eq, up_eq, up_ne (by decide), h.1, i_add]
  · rw [up_ne (by decide), up_eq, up_eq]
    rfl
  · intro j hj
    rw [up_ne (by decide), up_eq, up_ne (by omega)]
theorem s_308 {I : ai_I} {t L : Nat} {l : List Int32} {x : Int32} (h : TXB I 90 75 30 l) (hl : l.length < 2000) : wp (m_308 75 x I (Rc t) (Gc L)) (fun J => TXB J 90 75 30 (l ++ [by8 x]) ∧ ot2 I J 75 90 ∧ ∀ j, ¬ j = 30 → J 75 j = I 75 j) := by
  unfold m_308
  rw [h.1, r_75_29, g_90 hl, o_g_t, o_b1_s, i_cl (by omega), o_b1_s, wp_s]
  refine ⟨TXB_add h ?_ ?_ ?_, fun c c1 c2 => by rw [up_ne c1, up_ne c2], fun j hj => by rw [up_eq, up_ne hj, up_ne (by decide)]⟩
  · rw [up_eq, up_eq, up_ne (by decide), h.1, i_add]
  · rw [up_ne (by decide), up_eq, up_eq]
    rfl
  · intro j hj
    rw [up_ne (by decide), up_eq, up_ne (by omega)]
def KK (z : Nat) : Nat := if z < 10 then 0 else if z < 100 then 1 else if z < 1000 then 2 else if z < 10000 then 3 else if z < 100000 then 4 else if z < 1000000 then 5 else 6
theorem KK_ok {z : Nat} (h : z ≤ 1000000) : KK z ≤ 6 ∧ z < 10 ^ (KK z + 1) ∧ (KK z = 0 ∨ 10 ^ KK z ≤ z) := by
  unfold KK
  split
  · omega
  · split
    · omega
    · split
      · omega
      · split
        · omega
        · split
          · omega
          · split
            · omega
            · omega
def dg (K z m : Nat) : List Int32 := (List.range m).map (fun j => by8 (nI (48 + z / 10 ^ (K - j) % 10)))
theorem dg_len {K z m : Nat} : (dg K z m).length = m := by
  unfold dg
  rw [List.length_map, List.length_range]
theorem dg_s {K z m : Nat} : dg K z (m + 1) = dg K z m ++ [by8 (nI (48 + z / 10 ^ (K - m) % 10))] := by
  unfold dg
  rw [List.range_succ, List.map_append]
  rfl
def az (x : Int32) : Nat := x.toInt.natAbs
def nm (x : Int32) : List Int32 := [by8 (nI 32)] ++ (if 0 ≤ x then [] else [by8 (nI 45)]) ++ dg (KK (az x)) (az x) (KK (az x) + 1)
theorem az_ok {x : Int32} (h1 : -1000000 ≤ x) (h2 : x ≤ 1000000) : az x ≤ 1000000 ∧ (0 ≤ x → x = nI (az x)) ∧ (¬ 0 ≤ x → 0 - x = nI (az x) ∧ -x = nI (az x)) := by
  have e1 : (-1000000 : Int32).toInt = -1000000 := by decide
  have e2 : (1000000 : Int32).toInt = 1000000 := by decide
  rw [Int32.le_iff_toInt_le, e1] at h1
  rw [Int32.le_iff_toInt_le, e2] at h2
  have hz : az x ≤ 1000000 := by
    unfold az
    omega
  have e3 : (0 : Int32).toInt = 0 := rfl
  refine ⟨hz, fun h => ?_, fun h => ?_⟩
  · rw [Int32.le_iff_toInt_le, e3] at h
    apply Int32.toInt_inj.1
    rw [nI_toInt (by omega)]
    unfold az
    omega
  · rw [Int32.le_iff_toInt_le, e3] at h
    have hn : -x = nI (az x) := by
      apply Int32.toInt_inj.1
      rw [nI_toInt (by omega), Int32.toInt_neg, Int.bmod_eq_of_le (by omega) (by omega)]
      unfold az
      omega
    exact ⟨by rw [Int32.zero_sub, hn], hn⟩
theorem nm_len {x : Int32} (h1 : -1000000 ≤ x) (h2 : x ≤ 1000000) : (nm x).length ≤ 9 := by
  have h := KK_ok (az_ok h1 h2).1
  unfold nm
  rw [List.length_append, List.length_append, dg_len]
  split
  · show 1 + 0 + _ ≤ _
    omega
  · show 1 + 1 + _ ≤ _
    omega
theorem az_n {k : Nat} (h : k < 2147483648) : az (nI k) = k := by
  unfold az
  rw [nI_toInt (by omega)]
  rfl
theorem nm_l4 {k : Nat} (h : k < 256) : (nm (nI k)).length ≤ 4 := by
  unfold nm
  rw [List.length_append, List.length_append, dg_len, if_pos (nI_pos' (by omega)), az_n (by omega)]
  show 1 + 0 + _ ≤ _
  unfold KK
  split
  · omega
  · split
    · omega
    · rw [if_pos (by omega)]
      omega
theorem nm_l2 {k : Nat} (h : k < 10) : (nm (nI k)).length = 2 := by
  unfold nm
  rw [List.length_append, List.length_append, dg_len, if_pos (nI_pos' (by omega)), az_n (by omega)]
  unfold KK
  rw [if_pos h]
  rfl
theorem p10 {i k : Nat} (h : i ≤ k) : 10 ^ k / 10 ^ i = 10 ^ (k - i) := Nat.pow_div h (by decide)
theorem p10_s {i k : Nat} : 10 ^ k / 10 ^ i / 10 = 10 ^ k / 10 ^ (i + 1) := by rw [Nat.div_div_eq_div_mul, Nat.pow_succ]
theorem p10_le {i k : Nat} (h : i ≤ k) : 10 ^ i ≤ 10 ^ k := Nat.pow_le_pow_right (by decide) h
theorem c_21l {I : ai_I} {t L z : Nat} {l : List Int32} (h : TXB I 48 43 10 l) (hl : l.length + 7 ≤ 1024) (hz : z ≤ 1000000) : wp (o_s1 (lp (fun s => m_21_b24 43 (Rc t) (Gc L) (nI z) s.1 s.2) o_N ((nI 1000000), I)) (fun t => m_21_x24_59 t)) (fun J => TXB J 48 43 10 (l ++ dg (KK z) z (KK z + 1)) ∧ ot2 I J 43 48) := by
  obtain ⟨k1, k2, k3⟩ := KK_ok hz
  generalize KK z = K at k1 k2 k3 ⊢
  refine wp_s1 (wp_lp (fun i s => s.1 = nI (10 ^ 6 / 10 ^ i) ∧ TXB s.2 48 43 10 (l ++ dg K z (i - (6 - K))) ∧ ot2 I s.2 43 48) 0 7 (Nat.zero_le _) (by omega) ⟨rfl, ?_, fun _ _ _ => rfl⟩ ?_ ?_)
  · have e : 0 - (6 - K) = 0 := Nat.zero_sub _
    dsimp only
    rw [e]
    show TXB I 48 43 10 (l ++ [])
    rw [List.append_nil]
    exact h
  · rintro i ⟨s, J⟩ hi ⟨h1, h2, h3⟩
    dsimp only at h1 h2 h3
    subst h1
    have hu : 10 ^ 6 / 10 ^ i = 10 ^ (6 - i) := p10 (by omega)
    have hu0 : 0 < 10 ^ (6 - i) := Nat.pow_pos (by decide)
    have hum : 10 ^ (6 - i) ≤ 10 ^ 6 := p10_le (by omega)
    have hu1 : 10 ^ (6 - i) = 1 ↔ i = 6 := by
      constructor
      · intro e
        by_cases h6 : i = 6
        · exact h6
        · have := p10_le (show 1 ≤ 6 - i by omega)
          omega
      · rintro rfl
        rfl
    have hs := p10_s (i := i) (k := 6)
    rw [hu] at hs ⊢
    unfold m_21_b24
    dsimp only
    rw [if_neg (show ¬ nI (10 ^ (6 - i)) ≤ 0 by rw [i_le0 (by omega)]; omega)]
    by_cases c : 6 - K ≤ i
    · have hwr : 10 ^ (6 - i) = 1 ∨ 10 ^ (6 - i) ≤ z := by
        rcases k3 with rfl | k3
        · exact Or.inl (hu1.2 (by omega))
        · exact Or.inr (Nat.le_trans (p10_le (show 6 - i ≤ K by omega)) k3)
      have hj : wp (m_21_j38 43 (Rc t) (Gc L) (nI z) (nI (10 ^ (6 - i))) J) (lq (fun s => s.1 = nI (10 ^ 6 / 10 ^ (i + 1)) ∧ TXB s.2 48 43 10 (l ++ dg K z (i + 1 - (6 - K))) ∧ ot2 I s.2 43 48) (fun a => wp (m_21_x24_59 a) (fun J => TXB J 48 43 10 (l ++ dg K z (K + 1)) ∧ ot2 I J 43 48))) := by
        unfold m_21_j38
        rw [o_nz_of hu0 (by omega), o_g_t, pk_div (by omega) hu0 (by omega), pk_rem (Nat.lt_of_le_of_lt (Nat.div_le_self _ _) (by omega)) (by decide) (by decide), i_add]
        refine wp_b1 (wp_mono (c_20 h2 (by rw [List.length_append, dg_len]; omega)) ?_)
        rintro M ⟨a1, a2⟩
        rw [pk_div (by omega) (by decide) (by decide), o_b1_s, wp_s, lq_l]
        refine ⟨by dsimp only; rw [hs], ?_, ot2_tr h3 a2⟩
        have e1 : i + 1 - (6 - K) = (i - (6 - K)) + 1 := by omega
        have e2 : K - (i - (6 - K)) = 6 - i := by omega
        dsimp only
        rw [e1, dg_s, e2, ← List.append_assoc]
        exact a1
      by_cases e : 10 ^ (6 - i) = 1
      · rw [if_pos (show nI (10 ^ (6 - i)) = nI 1 by rw [e])]
        exact hj
      · rw [if_neg (show ¬ nI (10 ^ (6 - i)) = nI 1 by rw [i_eq (by omega) (by decide)]; exact e), if_neg (show ¬ nI z < nI (10 ^ (6 - i)) by rw [i_lt (by omega) (by omega)]; omega)]
        exact hj
    · have hlt : z < 10 ^ (6 - i) := Nat.lt_of_lt_of_le k2 (p10_le (by omega))
      rw [if_neg (show ¬ nI (10 ^ (6 - i)) = nI 1 by rw [i_eq (by omega) (by decide), hu1]; omega), if_pos (show nI z < nI (10 ^ (6 - i)) by rw [i_lt (by omega) (by omega)]; exact hlt), pk_div (by omega) (by decide) (by decide), o_b1_s, wp_s, lq_l]
      refine ⟨by dsimp only; rw [hs], ?_, h3⟩
      have e1 : i + 1 - (6 - K) = i - (6 - K) := by omega
      dsimp only
      rw [e1]
      exact h2
  · rintro ⟨s, J⟩ ⟨h1, h2, h3⟩
    dsimp only at h1 h2 h3
    subst h1
    have e : 7 - (6 - K) = K + 1 := by omega
    rw [e] at h2
    exact ⟨_, rfl, _, rfl, h2, h3⟩
theorem c_21 {I : ai_I} {t L : Nat} {x : Int32} {l : List Int32} (h : TXB I 48 43 10 l) (hl : l.length + 9 ≤ 1024) (h1 : -1000000 ≤ x) (h2 : x ≤ 1000000) : wp (m_21 43 x I (Rc t) (Gc L)) (fun J => TXB J 48 43 10 (l ++ nm x) ∧ ot2 I J 43 48) := by
  obtain ⟨z1, z2, z3⟩ := az_ok h1 h2
  unfold m_21 nm
  refine wp_b1 (wp_mono (c_20 h (by omega)) ?_)
  rintro J ⟨a1, a2⟩
  unfold m_21_j16
  by_cases c : 0 ≤ x
  · rw [if_pos c, if_pos c, if_pos c, o_b1_s, z2 c, az_n (by omega)]
    refine wp_mono (c_21l a1 (by rw [List.length_append]; show _ + 1 + _ ≤ _; omega) z1) ?_
    rintro K ⟨b1, b2⟩
    rw [List.append_nil, ← List.append_assoc]
    exact ⟨b1, ot2_tr a2 b2⟩
  · rw [if_neg c, if_neg c, if_neg c, (z3 c).1]
    refine wp_b1 (wp_mono (c_20 a1 (by rw [List.length_append]; show _ + 1 < _; omega)) ?_)
    rintro M ⟨d1, d2⟩
    rw [o_b1_s]
    refine wp_mono (c_21l d1 (by rw [List.length_append, List.length_append]; show _ + 1 + 1 + _ ≤ _; omega) z1) ?_
    rintro K ⟨b1, b2⟩
    rw [← List.append_assoc, ← List.append_assoc]
    exact ⟨b1, ot2_tr a2 (ot2_tr d2 b2)⟩
def rot (I J : ai_I) : Prop := ot2 I J 75 90 ∧ ∀ j, ¬ j = 30 → J 75 j = I 75 j
theorem rot_rf {I : ai_I} : rot I I := ⟨fun _ _ _ => rfl, fun _ _ => rfl⟩
theorem rot_tr {I J K : ai_I} (h : rot I J) (h2 : rot J K) : rot I K := ⟨ot2_tr h.1 h2.1, fun j hj => (h2.2 j hj).trans (h.2 j hj)⟩
theorem s_309l {I : ai_I} {t L z : Nat} {l : List Int32} (h : TXB I 90 75 30 l) (hl : l.length + 7 ≤ 2000) (hz : z ≤ 1000000) : wp (m_309_j26 75 (Rc t) (Gc L) I (nI z)) (fun J => TXB J 90 75 30 (l ++ dg (KK z) z (KK z + 1)) ∧ rot I J) := by
  obtain ⟨k1, k2, k3⟩ := KK_ok hz
  generalize KK z = K at k1 k2 k3 ⊢
  have hK6 : 10 ^ K ≤ 10 ^ 6 := p10_le k1
  unfold m_309_j26
  refine wp_s1 (wp_lp (fun i s => s = nI (10 ^ i)) 0 K (Nat.zero_le _) (by omega) rfl ?_ ?_)
  · rintro i s hi rfl
    have hu0 : 0 < 10 ^ i := Nat.pow_pos (by decide)
    have hum : 10 ^ i ≤ 10 ^ K := p10_le (by omega)
    have h1 : 10 ^ (i + 1) ≤ 10 ^ K := p10_le (by omega)
    have h2 : 10 ^ (i + 1) = 10 ^ i * 10 := Nat.pow_succ ..
    have h3 : 10 ≤ z / 10 ^ i := by
      rw [Nat.le_div_iff_mul_le hu0]
      rcases k3 with rfl | k3
      · omega
      · omega
    have h4 : z / 10 ^ i ≤ z := Nat.div_le_self _ _
    unfold m_309_b29
    rw [o_nz_of hu0 (by omega), o_g_t, pk_div (by omega) hu0 (by omega), if_neg (nI_ge h3 (by omega)), i_mul, o_b1_s, wp_s, lq_l, h2]
  · rintro s rfl
    have hu0 : 0 < 10 ^ K := Nat.pow_pos (by decide)
    have h3 : z / 10 ^ K ≤ 9 := by
      have h4 : z / 10 ^ K < 10 := by
        rw [Nat.div_lt_iff_lt_mul hu0]
        rw [Nat.pow_succ] at k2
        omega
      omega
    unfold m_309_b29
    rw [o_nz_of hu0 (by omega), o_g_t, pk_div (by omega) hu0 (by omega), if_pos (nI_le h3 (by omega)), wp_s, lq_r]
    unfold m_309_x29_45
    refine wp_s1 (wp_lp (fun i s => s.1 = nI (10 ^ K / 10 ^ i) ∧ TXB s.2 90 75 30 (l ++ dg K z i) ∧ rot I s.2) 0 (K + 1) (Nat.zero_le _) (by omega) ⟨by dsimp only; rw [Nat.pow_zero, Nat.div_one], ?_, rot_rf⟩ ?_ ?_)
    · show TXB I 90 75 30 (l ++ [])
      rw [List.append_nil]
      exact h
    · rintro i ⟨s, J⟩ hi ⟨h1, h2, h3⟩
      dsimp only at h1 h2 h3
      subst h1
      have hu : 10 ^ K / 10 ^ i = 10 ^ (K - i) := p10 (by omega)
      have hu0 : 0 < 10 ^ (K - i) := Nat.pow_pos (by decide)
      have hum : 10 ^ (K - i) ≤ 10 ^ K := p10_le (by omega)
      have hs := p10_s (i := i) (k := K)
      rw [hu] at hs ⊢
      unfold m_309_b45
      dsimp only
      rw [if_neg (show ¬ nI (10 ^ (K - i)) ≤ 0 by rw [i_le0 (by omega)]; omega), o_nz_of hu0 (by omega), o_g_t, pk_div (by omega) hu0 (by omega), pk_rem (Nat.lt_of_le_of_lt (Nat.div_le_self _ _) (by omega)) (by decide) (by decide), i_add]
      refine wp_b1 (wp_mono (s_308 h2 (by rw [List.length_append, dg_len]; omega)) ?_)
      rintro M ⟨a1, a2⟩
      rw [pk_div (by omega) (by decide) (by decide), o_b1_s, wp_s, lq_l]
      refine ⟨by dsimp only; rw [hs], ?_, rot_tr h3 a2⟩
      dsimp only
      rw [dg_s, ← List.append_assoc]
      exact a1
    · rintro ⟨s, J⟩ ⟨h1, h2, h3⟩
      dsimp only at h1 h2 h3
      subst h1
      have e : 10 ^ K / 10 ^ (K + 1) = 0 := Nat.div_eq_of_lt (by rw [Nat.pow_succ]; omega)
      unfold m_309_b45
      dsimp only
      rw [e, if_pos (by decide), wp_s, lq_r]
      exact ⟨_, rfl, h2, h3⟩
theorem s_309 {I : ai_I} {t L : Nat} {x : Int32} {l : List Int32} (h : TXB I 90 75 30 l) (hl : l.length + 9 ≤ 1024) (h1 : -1000000 ≤ x) (h2 : x ≤ 1000000) : wp (m_309 75 x I (Rc t) (Gc L)) (fun J => TXB J 90 75 30 (l ++ nm x) ∧ rot I J) := by
  obtain ⟨z1, z2, z3⟩ := az_ok h1 h2
  unfold m_309 nm
  refine wp_b1 (wp_mono (s_308 h (by omega)) ?_)
  rintro J ⟨a1, a2⟩
  unfold m_309_j16
  by_cases c : 0 ≤ x
  · rw [if_pos c, if_pos c, if_pos c, z2 c, az_n (by omega)]
    refine wp_mono (s_309l a1 (by rw [List.length_append]; show _ + 1 + _ ≤ _; omega) z1) ?_
    rintro K ⟨b1, b2⟩
    rw [List.append_nil, ← List.append_assoc]
    exact ⟨b1, rot_tr a2 b2⟩
  · rw [if_neg c, if_neg c]
    refine wp_b1 (wp_mono (s_308 a1 (by rw [List.length_append]; show _ + 1 < _; omega)) ?_)
    rintro M ⟨d1, d2⟩
    rw [if_neg c, (z3 c).2]
    refine wp_mono (s_309l d1 (by rw [List.length_append, List.length_append]; show _ + 1 + 1 + _ ≤ _; omega) z1) ?_
    rintro K ⟨b1, b2⟩
    rw [← List.append_assoc, ← List.append_assoc]
    exact ⟨b1, rot_tr a2 (rot_tr d2 b2)⟩
/-- the bases and what they are worth, as signs -/
def tl (V : Nat → Int32) : Nat → List Int32
  | 0 => []
  | k + 1 => if V k = NO then tl V k else tl V k ++ nm (nI k) ++ nm (V k)
theorem nIin {k : Nat} (h : k ≤ 1000000) : -1000000 ≤ nI k ∧ nI k ≤ 1000000 := ⟨Int32.le_trans (by decide) (nI_pos' (by omega)), nI_le h (by decide)⟩
theorem tl_len {n r : Nat} {V : Nat → Int32} (h : WF n r V) : ∀ k, k ≤ 256 → (tl V k).length ≤ 13 * fln (fun b => decide (V b ≠ NO)) k
  | 0, _ => Nat.zero_le _
  | k + 1, hk => by
    have ih := tl_len h k (by omega)
    show (if V k = NO then tl V k else tl V k ++ nm (nI k) ++ nm (V k)).length ≤ _
    by_cases c : V k = NO
    · rw [if_pos c, fq_f (decide_eq_false (fun h => h c))]
      exact ih
    · have hv := h.2.2.2.2.1 k (by omega) c
      have n1 := nm_l4 (show k < 256 by omega)
      have n2 := nm_len hv.2.2.1 hv.2.2.2
      rw [if_neg c, fq_t (decide_eq_true c), List.length_append, List.length_append]
      omega
theorem tl_lt {n r k : Nat} {V : Nat → Int32} (h : WF n r V) (hk : k < 256) (hV : V k ≠ NO) : (tl V k).length ≤ 897 := by
  have h1 := tl_len h k (by omega)
  have h2 : fln (fun b => decide (V b ≠ NO)) (k + 1) = fln (fun b => decide (V b ≠ NO)) k + 1 := fq_t (decide_eq_true hV)
  have h3 : fln (fun b => decide (V b ≠ NO)) (k + 1) ≤ fln (fun b => decide (V b ≠ NO)) 256 := fln_mono (255 - k) _ _ (by omega)
  have h4 : fln (fun b => decide (V b ≠ NO)) 256 ≤ 70 := BL_len h
  omega
theorem tl_all {n r : Nat} {V : Nat → Int32} (h : WF n r V) : (tl V 256).length ≤ 910 := by
  have h1 := tl_len h 256 (by omega)
  have h4 : fln (fun b => decide (V b ≠ NO)) 256 ≤ 70 := BL_len h
  omega
def t4 : List Int32 := [by8 (nI 116), by8 (nI 111), by8 (nI 108), by8 (nI 100)]
theorem sl_told : o_sl 2004 = some (nI 4) := rfl
theorem sc_told : ∀ i, i < 4 → o_sc 2004 (nI i) = some (nI ([116, 111, 108, 100].getD i 0))
  | 0, _ => rfl
  | 1, _ => rfl
  | 2, _ => rfl
  | 3, _ => rfl
theorem t4_s : ∀ i, i < 4 → t4.take (i + 1) = t4.take i ++ [by8 (nI ([116, 111, 108, 100].getD i 0))]
  | 0, _ => rfl
  | 1, _ => rfl
  | 2, _ => rfl
  | 3, _ => rfl
def hd (s n r : Nat) : List Int32 := t4 ++ nm (nI s) ++ nm (nI n) ++ nm (nI r)
theorem hd_len {s n r : Nat} (h1 : s < 10) (h2 : n < 10) (h3 : r < 10) : (hd s n r).length = 10 := by
  unfold hd
  rw [List.length_append, List.length_append, List.length_append, nm_l2 h1, nm_l2 h2, nm_l2 h3]
  rfl
theorem c_19 {I : ai_I} {t L k n r : Nat} (hk : k < 4) (hW : WF n r (FV I k)) (h : CS I (6 + 4 * k) n r (FV I k)) : wp (m_19 43 (6 + 4 * k) (nI k) I (Rc t) (Gc L)) (fun J => TXB J 48 43 10 (hd k n r ++ tl (FV I k) 256) ∧ ot2 I J 43 48) := by
  have hn := hW.2.1
  have hr := hW.2.2.2.1
  have hv := vc_s (s := k) hk
  unfold m_19
  rw [o_b1_s, show m_10 (nI 4) = some 2004 from rfl, o_b1_s]
  refine wp_s1 (wp_lp (fun i s => s.1 = nI i ∧ TXB s.2 48 43 10 (t4.take i) ∧ ot2 I s.2 43 48) 0 4 (Nat.zero_le _) (by omega) ⟨rfl, ⟨by show va_up I 43 (va_up (I 43) 10 (nI 0)) 43 10 = _; rw [up_eq, up_eq]; rfl, fun j hj => absurd hj (Nat.not_lt_zero _)⟩, fun x h1 _ => up_ne h1⟩ ?_ ?_)
  · rintro i ⟨s, J⟩ hi ⟨h1, h2, h3⟩
    dsimp only at h1 h2 h3
    subst h1
    unfold m_19_b13
    dsimp only
    rw [sl_told, o_b1_s, if_neg (nI_ge hi (by decide)), sc_told i hi, o_b1_s]
    refine wp_b1 (wp_mono (c_20 h2 (by rw [List.length_take]; have : t4.length = 4 := rfl; omega)) ?_)
    rintro M ⟨a1, a2⟩
    rw [i_add, o_b1_s, wp_s, lq_l]
    refine ⟨rfl, ?_, ot2_tr h3 a2⟩
    dsimp only
    rw [t4_s i hi]
    exact a1
  · rintro ⟨s, J⟩ ⟨h1, h2, h3⟩
    dsimp only at h1 h2 h3
    subst h1
    unfold m_19_b13
    dsimp only
    rw [sl_told, o_b1_s, if_pos (nI_le (Nat.le_refl 4) (by decide)), wp_s, lq_r]
    unfold m_19_x13_38
    have b1 := nIin (show k ≤ 1000000 by omega)
    have b2 := nIin (show n ≤ 1000000 by omega)
    have b3 := nIin (show r ≤ 1000000 by omega)
    have l1 := nm_l2 (show k < 10 by omega)
    have l2 := nm_l2 (show n < 10 by omega)
    have l3 := nm_l2 (show r < 10 by omega)
    have e4 : t4.take 4 = t4 := rfl
    have e5 : t4.length = 4 := rfl
    rw [e4] at h2
    refine wp_b1 (wp_mono (c_21 h2 (by omega) b1.1 b1.2) ?_)
    rintro M ⟨a1, a2⟩
    have f1 := ot2_tr h3 a2
    rw [v_kd hv, o_g_t, f1 _ (by omega) (by omega), h.1]
    refine wp_b1 (wp_mono (c_21 a1 (by rw [List.length_append]; omega) b2.1 b2.2) ?_)
    rintro M2 ⟨a3, a4⟩
    have f2 := ot2_tr f1 a4
    rw [f2 _ (by omega) (by omega), h.2.1]
    refine wp_b1 (wp_mono (c_21 a3 (by rw [List.length_append, List.length_append]; omega) b3.1 b3.2) ?_)
    rintro M3 ⟨a5, a6⟩
    have f3 := ot2_tr f2 a6
    have hlen := hd_len (show k < 10 by omega) (show n < 10 by omega) (show r < 10 by omega)
    have hl := BL_len hW
    refine wp_s1 (wp_lpB (FV I k) (fun p (J : ai_I) => (nI p, J)) (fun j J => TXB J 48 43 10 (hd k n r ++ tl (FV I k) j) ∧ ot2 I J 43 48) (x0 := M3) hl ⟨by show TXB M3 48 43 10 (hd k n r ++ []); rw [List.append_nil]; exact a5, f3⟩ ?_ ?_ ?_)
    · rintro j K hj hV ⟨g1, g2⟩
      refine ⟨?_, g2⟩
      show TXB K 48 43 10 (hd k n r ++ (if FV I k j = NO then tl (FV I k) j else tl (FV I k) j ++ nm (nI j) ++ nm (FV I k j)))
      rw [if_pos hV]
      exact g1
    · rintro p K hp ⟨g1, g2⟩
      have hb := BL_at hp
      have ht := tl_lt hW hb.1 hb.2
      have hv5 := hW.2.2.2.2.1 _ hb.1 hb.2
      have c1 := nIin (show (BL (FV I k)).getD p 0 ≤ 1000000 by omega)
      have c2 := nm_l4 hb.1
      unfold m_19_b62
      dsimp only
      have hc := (g2 (6 + 4 * k) (by omega) (by omega)).symm ▸ h.2.2.1
      rw [if_neg (show ¬ K (6 + 4 * k) 2 ≤ nI p by rw [hc]; exact nI_ge hp (by omega)), v_rb hv, v_gb hv (by omega), o_g_t, i_cl (by omega), g2 _ (by omega) (by omega), h.2.2.2.2.2 p hp]
      refine wp_b1 (wp_mono (c_21 g1 (by rw [List.length_append]; omega) c1.1 c1.2) ?_)
      rintro N ⟨u1, u2⟩
      have g3 := ot2_tr g2 u2
      rw [o_g_t, g3 _ (by omega) (by omega), h.2.2.2.2.2 p hp, v_rv hv, v_gv hv hb.1, o_g_t, i_cl (by omega), g3 _ (by omega) (by omega), h.2.2.2.1 _ hb.1]
      refine wp_b1 (wp_mono (c_21 u1 (by rw [List.length_append, List.length_append]; omega) hv5.2.2.1 hv5.2.2.2) ?_)
      rintro N2 ⟨u3, u4⟩
      rw [i_add, o_b1_s, wp_s, lq_l]
      refine ⟨N2, rfl, ?_, ot2_tr g3 u4⟩
      show TXB N2 48 43 10 (hd k n r ++ (if FV I k _ = NO then tl (FV I k) _ else tl (FV I k) _ ++ nm (nI _) ++ nm (FV I k _)))
      rw [if_neg hb.2, ← List.append_assoc, ← List.append_assoc]
      exact u3
    · rintro K ⟨g1, g2⟩
      unfold m_19_b62
      dsimp only
      have hc := (g2 (6 + 4 * k) (by omega) (by omega)).symm ▸ h.2.2.1
      rw [if_pos (show K (6 + 4 * k) 2 ≤ nI (BL (FV I k)).length by rw [hc]; exact Int32.le_refl _), wp_s, lq_r]
      exact ⟨K, rfl, g1, g2⟩
theorem s_310 {I : ai_I} {t L k n r : Nat} {x : Int32} (hk : k < 4) (hW : WF n r (FV I k)) (h1 : I 76 (258 * k) = nI n) (h2 : I 76 (258 * k + 1) = nI r) (hx : -1 ≤ x) : wp (m_310 75 (nI k) x I (Rc t) (Gc L)) (fun q => ∃ J, TXB J 90 75 30 (hd k n r ++ tl (FV I k) 256) ∧ rot I J ∧ some q = m_310_x68_108 75 x (Rc t) (Gc L) J) := by
  have hn := hW.2.1
  have hr := hW.2.2.2.1
  unfold m_310
  rw [s_200, o_b1_s, q_bz, if_pos (nI_in03 (by omega)), if_pos hx, o_b1_s]
  have b1 := nIin (show k ≤ 1000000 by omega)
  have b2 := nIin (show n ≤ 1000000 by omega)
  have b3 := nIin (show r ≤ 1000000 by omega)
  have l1 := nm_l2 (show k < 10 by omega)
  have l2 := nm_l2 (show n < 10 by omega)
  have l3 := nm_l2 (show r < 10 by omega)
  have e5 : t4.length = 4 := rfl
  have a0 : TXB (va_up I 75 (va_up (I 75) 30 (nI 0))) 90 75 30 [] := ⟨by rw [up_eq, up_eq]; rfl, fun j hj => absurd hj (Nat.not_lt_zero _)⟩
  have r0 : rot I (va_up I 75 (va_up (I 75) 30 (nI 0))) := ⟨fun c c1 _ => up_ne c1, fun j hj => by rw [up_eq, up_ne hj]⟩
  refine wp_b1 (wp_mono (s_308 a0 (by show 0 < _; omega)) ?_)
  rintro M1 ⟨a1, q1⟩
  refine wp_b1 (wp_mono (s_308 a1 (by show 1 < _; omega)) ?_)
  rintro M2 ⟨a2, q2⟩
  refine wp_b1 (wp_mono (s_308 a2 (by show 2 < _; omega)) ?_)
  rintro M3 ⟨a3, q3⟩
  refine wp_b1 (wp_mono (s_308 a3 (by show 3 < _; omega)) ?_)
  rintro M4 ⟨a4, q4⟩
  have r4 := rot_tr r0 (rot_tr q1 (rot_tr q2 (rot_tr q3 q4)))
  have a4' : TXB M4 90 75 30 t4 := a4
  refine wp_b1 (wp_mono (s_309 a4' (by omega) b1.1 b1.2) ?_)
  rintro M5 ⟨a5, q5⟩
  have r5 := rot_tr r4 q5
  rw [s_195 (by omega), o_b1_s, r5.1 76 (by decide) (by decide), h1]
  refine wp_b1 (wp_mono (s_309 a5 (by rw [List.length_append]; omega) b2.1 b2.2) ?_)
  rintro M6 ⟨a6, q6⟩
  have r6 := rot_tr r5 q6
  rw [s_196 (by omega), o_b1_s, r6.1 76 (by decide) (by decide), h2]
  refine wp_b1 (wp_mono (s_309 a6 (by rw [List.length_append, List.length_append]; omega) b3.1 b3.2) ?_)
  rintro M7 ⟨a7, q7⟩
  have r7 := rot_tr r6 q7
  have hlen := hd_len (show k < 10 by omega) (show n < 10 by omega) (show r < 10 by omega)
  have hF : ∀ J : ai_I, rot I J → FV J k = FV I k := fun J hJ => by
    unfold FV
    rw [hJ.1 76 (by decide) (by decide)]
  refine wp_s1 (wp_lp (fun j s => s.1 = nI j ∧ TXB s.2 90 75 30 (hd k n r ++ tl (FV I k) j) ∧ rot I s.2) 0 256 (Nat.zero_le _) (by omega) ⟨rfl, by show TXB M7 90 75 30 (hd k n r ++ []); rw [List.append_nil]; exact a7, r7⟩ ?_ ?_)
  · rintro j ⟨s, J⟩ hj ⟨g1, g2, g3⟩
    dsimp only at g1 g2 g3
    subst g1
    unfold m_310_b68
    dsimp only
    rw [if_neg (nI_ge hj (by decide)), s_199 (by omega) hj, o_b1_s, q_bz, hF J g3]
    by_cases hV : FV I k j = NO
    · rw [if_neg (fun h => h hV), i_add, o_b1_s, wp_s, lq_l]
      refine ⟨rfl, ?_, g3⟩
      show TXB J 90 75 30 (hd k n r ++ (if FV I k j = NO then tl (FV I k) j else tl (FV I k) j ++ nm (nI j) ++ nm (FV I k j)))
      rw [if_pos hV]
      exact g2
    · have ht := tl_lt hW hj hV
      have hv5 := hW.2.2.2.2.1 _ hj hV
      have c1 := nIin (show j ≤ 1000000 by omega)
      have c2 := nm_l4 hj
      rw [if_pos hV]
      refine wp_b1 (wp_mono (s_309 g2 (by rw [List.length_append]; omega) c1.1 c1.2) ?_)
      rintro N ⟨u1, u2⟩
      have g4 := rot_tr g3 u2
      rw [s_198 (by omega) hj, o_b1_s, hF N g4]
      refine wp_b1 (wp_mono (s_309 u1 (by rw [List.length_append, List.length_append]; omega) hv5.2.2.1 hv5.2.2.2) ?_)
      rintro N2 ⟨u3, u4⟩
      rw [i_add, o_b1_s, wp_s, lq_l]
      refine ⟨rfl, ?_, rot_tr g4 u4⟩
      show TXB N2 90 75 30 (hd k n r ++ (if FV I k j = NO then tl (FV I k) j else tl (FV I k) j ++ nm (nI j) ++ nm (FV I k j)))
      rw [if_neg hV, ← List.append_assoc, ← List.append_assoc]
      exact u3
  · rintro ⟨s, J⟩ ⟨g1, g2, g3⟩
    dsimp only at g1 g2 g3
    subst g1
    unfold m_310_b68
    dsimp only
    rw [if_pos (nI_le (Nat.le_refl 256) (by decide)), wp_s, lq_r]
    have ht := tl_all hW
    have hb : (hd k n r ++ tl (FV I k) 256).length ≤ 920 := by rw [List.length_append]; omega
    by_cases x1 : x = -1
    · exact ⟨_, if_pos x1, J, g2, g3, (if_pos x1).symm⟩
    · by_cases x2 : J 75 30 ≤ x
      · refine ⟨(-4, J), ?_, J, g2, g3, ?_⟩
        · unfold m_310_x68_108
          rw [if_neg x1, if_pos x2]
        · unfold m_310_x68_108
          rw [if_neg x1, if_pos x2]
      · obtain ⟨j, hj, rfl⟩ : ∃ j, j < (hd k n r ++ tl (FV I k) 256).length ∧ x = nI j := by
          rw [g2.1] at x2
          obtain ⟨j, j1, j2⟩ : ∃ j, j ≤ (hd k n r ++ tl (FV I k) 256).length ∧ x = nI j := nI_of2 (nI_toInt (by omega)) (fun h => by
            rw [Int32.lt_iff_toInt_lt] at h
            rw [Int32.le_iff_toInt_le] at hx
            have e : (-1 : Int32).toInt = -1 := by decide
            have e0 : (0 : Int32).toInt = 0 := rfl
            rw [e] at hx
            rw [e0] at h
            exact x1 (Int32.toInt_inj.1 (by rw [e]; omega))) (Int32.le_of_lt (Int32.not_le.1 x2))
          refine ⟨j, ?_, j2⟩
          rcases Nat.lt_or_ge j (hd k n r ++ tl (FV I k) 256).length with h | h
          · exact h
          · exact absurd (j2 ▸ nI_le h (by omega)) x2
        have hm : m_310_x68_108 75 (nI j) (Rc t) (Gc L) J = some (J 90 j, J) := by
          unfold m_310_x68_108
          rw [if_neg x1, if_neg x2, r_75_29, g_90 (by omega), o_g_t, i_cl (by omega)]
        exact ⟨_, hm, J, g2, g3, hm.symm⟩
theorem fin_told {I J K : ai_I} (h1 : ot2 I J 43 48) (h2 : rot J K) : SAME I K := ⟨fun c hc => by rw [h2.1 c (by omega) (by omega), h1 c (by omega) (by omega)], fun i _ => by rw [h2.1 76 (by decide) (by decide), h1 76 (by decide) (by decide)], by rw [h2.1 77 (by decide) (by decide), h1 77 (by decide) (by decide)], by rw [h2.2 1 (by decide), h1 75 (by decide) (by decide)], by rw [h2.2 3 (by decide), h1 75 (by decide) (by decide)], by rw [h2.1 1999 (by decide) (by decide), h1 1999 (by decide) (by decide)]⟩
theorem op_told {I : ai_I} {t L : Nat} (h : ST I) (s x : Int32) : OPc I (m_167 1 s x I (Rc t) (Gc L)) (fun I1 => m_310 75 s x I1 (Rc t) (Gc L)) := by
  rcases x_cases s (n := 3) (by decide) with ⟨k, hk, rfl⟩ | hs
  · obtain ⟨n, r, hW, hC, hI, hIr⟩ := h.1 k (by omega)
    have hn := hW.2.1
    have hr := hW.2.2.2.1
    unfold m_167
    rw [r_1_0, k_2, o_g_t, c_96 (by omega), o_b1_s, if_neg (by omega)]
    by_cases hx : -1 ≤ x
    · obtain ⟨J, j1, j2, j3⟩ := c_19 (t := t) (L := L) (show k < 4 by omega) hW hC
      have hF : FV J k = FV I k := by
        unfold FV
        rw [j3 76 (by decide) (by decide)]
      obtain ⟨q, q1, K, k1, k2, k3⟩ := s_310 (I := J) (t := t) (L := L) (k := k) (n := n) (r := r) (x := x) (by omega) (by rw [hF]; exact hW) (by rw [j3 76 (by decide) (by decide)]; exact hI) (by rw [j3 76 (by decide) (by decide)]; exact hIr) hx
      rw [hF] at k1
      have ht := tl_all hW
      have hlen := hd_len (show k < 10 by omega) (show n < 10 by omega) (show r < 10 by omega)
      have hb : (hd k n r ++ tl (FV I k) 256).length ≤ 920 := by rw [List.length_append]; omega
      rw [if_pos hx, r_1_5, k_43, o_g_t, j1, o_b1_s]
      have e : J 43 10 = K 75 30 := by rw [j2.1, k1.1]
      by_cases x1 : x = -1
      · refine ⟨J 43 10, J, K, if_pos x1, ?_, fin_told j3 k2, j3 1999 (by decide) (by decide)⟩
        show m_310 75 (nI k) x J (Rc t) (Gc L) = _
        rw [q1, k3, e]
        exact if_pos x1
      · by_cases x2 : J 43 10 ≤ x
        · refine ⟨-4, J, K, by rw [if_neg x1, if_pos x2], ?_, fin_told j3 k2, j3 1999 (by decide) (by decide)⟩
          show m_310 75 (nI k) x J (Rc t) (Gc L) = _
          rw [q1, k3]
          unfold m_310_x68_108
          rw [if_neg x1, if_pos (e ▸ x2)]
        · obtain ⟨j, hj, rfl⟩ : ∃ j, j < (hd k n r ++ tl (FV I k) 256).length ∧ x = nI j := by
            rw [j2.1] at x2
            obtain ⟨j, e1, e2⟩ : ∃ j, j ≤ (hd k n r ++ tl (FV I k) 256).length ∧ x = nI j := nI_of2 (nI_toInt (by omega)) (fun h => by
              rw [Int32.lt_iff_toInt_lt] at h
              rw [Int32.le_iff_toInt_le] at hx
              have e : (-1 : Int32).toInt = -1 := by decide
              have e0 : (0 : Int32).toInt = 0 := rfl
              rw [e] at hx
              rw [e0] at h
              exact x1 (Int32.toInt_inj.1 (by rw [e]; omega))) (Int32.le_of_lt (Int32.not_le.1 x2))
            refine ⟨j, ?_, e2⟩
            rcases Nat.lt_or_ge j (hd k n r ++ tl (FV I k) 256).length with h | h
            · exact h
            · exact absurd (e2 ▸ nI_le h (by omega)) x2
          refine ⟨J 48 j, J, K, by rw [if_neg x1, if_neg x2, r_43_9, g_48 (by omega), o_g_t, i_cl (by omega)], ?_, fin_told j3 k2, j3 1999 (by decide) (by decide)⟩
          show m_310 75 (nI k) (nI j) J (Rc t) (Gc L) = _
          rw [q1, k3]
          unfold m_310_x68_108
          rw [if_neg x1, if_neg (e ▸ x2), r_75_29, g_90 (by omega), o_g_t, i_cl (by omega), k1.2 j hj, j2.2 j hj]
    · refine ⟨-1, I, I, by rw [if_neg hx], ?_, SAME_rf, rfl⟩
      show m_310 75 (nI k) x I (Rc t) (Gc L) = _
      unfold m_310
      rw [s_200, o_b1_s, q_bz, if_pos (nI_in03 hk), if_neg hx]
  · refine ⟨-1, I, I, ?_, ?_, SAME_rf, rfl⟩
    · unfold m_167
      rw [r_1_0, k_2, o_g_t, c_96o hs, o_b1_s, if_pos rfl]
    · show m_310 75 s x I (Rc t) (Gc L) = _
      unfold m_310
      rw [s_200, o_b1_s, q_bz, if_neg hs]
