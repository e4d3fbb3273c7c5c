/-! Out of whole's part 79i.graph, by wip/p46/extract.py. -/
def eb (c : Nat → Nat) (e : Nat) : Nat := 2 ^ c (2 * e) ||| 2 ^ c (2 * e + 1)
def mr (set : Nat) (c : Nat → Nat) (m : Nat) : Nat → Nat
  | 0 => m
  | e + 1 => if set.testBit e = true ∧ ¬ mr set c m e &&& eb c e = 0 then mr set c m e ||| eb c e else mr set c m e
def mt (set : Nat) (c : Nat → Nat) (n : Nat) : Nat → Nat
  | 0 => 1
  | q + 1 => mr set c (mt set c n q) n
theorem mr_t {set m e : Nat} {c : Nat → Nat} (h : set.testBit e = true ∧ ¬ mr set c m e &&& eb c e = 0) : mr set c m (e + 1) = mr set c m e ||| eb c e := if_pos h
theorem mr_f {set m e : Nat} {c : Nat → Nat} (h : ¬ (set.testBit e = true ∧ ¬ mr set c m e &&& eb c e = 0)) : mr set c m (e + 1) = mr set c m e := if_neg h
theorem eb_lt {n e : Nat} {c : Nat → Nat} (h : ∀ i, i < 2 * n → c i < 8) (he : e < n) : eb c e < 256 := bit_or_lt (p2_lt (h _ (by omega))) (p2_lt (h _ (by omega)))
theorem mr_lt {set m n : Nat} {c : Nat → Nat} (h : ∀ i, i < 2 * n → c i < 8) (hm : m < 256) : ∀ e, e ≤ n → mr set c m e < 256
  | 0, _ => hm
  | e + 1, he => by
    have ih := mr_lt (set := set) h hm e (by omega)
    by_cases k : set.testBit e = true ∧ ¬ mr set c m e &&& eb c e = 0
    · rw [mr_t k]
      exact bit_or_lt ih (eb_lt h (by omega))
    · rw [mr_f k]
      exact ih
theorem mt_lt {set n : Nat} {c : Nat → Nat} (h : ∀ i, i < 2 * n → c i < 8) : ∀ q, mt set c n q < 256
  | 0 => show 1 < 256 by omega
  | q + 1 => mr_lt h (mt_lt h q) n (Nat.le_refl _)
/-- the class reads the clause's numbers -/
def RD (I : ai_I) (t : Nat) (L : ai_G) (k : Nat) (num : Nat → Int32) (cnt : Nat) : Prop := ∀ J : ai_I, (∀ c, ¬ c = 50 → ¬ c = 51 → ¬ c = 54 → J c = I c) → ∀ i, i < cnt → m_4 43 (nI k) (nI i) J (Rc t) (Gc L) = some (num i)
theorem c_47 {I J : ai_I} {t k n r set : Nat} {L : ai_G} {c : Nat → Nat} {num : Nat → Int32} (hn : n ≤ 8) (hr : r < 8) (hs : set < 2 ^ n) (hR : RD I t L k num (3 + 2 * n)) (hc : ∀ i, i < 2 * n → c i < 8 ∧ num (3 + i) = nI (c i)) (hJ : ∀ x, ¬ x = 50 → ¬ x = 51 → ¬ x = 54 → J x = I x) (h0 : J 50 0 = nI n) (h1 : J 50 1 = nI r) : wp (m_36 49 (nI set) 43 (nI k) J (Rc t) (Gc L)) (yn (mt set c n (r + 1) = 2 ^ (r + 1) - 1)) := by
  have h8 := p2_le hn
  have hc8 : ∀ i, i < 2 * n → c i < 8 := fun i hi => (hc i hi).1
  unfold m_36
  rw [r_49_0, k_50, o_g_t, h1, i_add, o_b1_s]
  refine wp_s1 (wp_lp (fun q s => s = (nI (mt set c n q), nI q)) 0 (r + 1) (Nat.zero_le _) (by omega) rfl ?_ ?_)
  · rintro q s hq rfl
    have hm := mt_lt (set := set) (n := n) hc8 q
    unfold m_36_b17
    dsimp only
    rw [if_neg (nI_ge hq (by omega))]
    refine wp_s1 (wp_lp (fun e s => s = (nI (mr set c (mt set c n q) e), nI e)) 0 n (Nat.zero_le _) (by omega) rfl ?_ ?_)
    · rintro e s he rfl
      have hme := mr_lt (set := set) hc8 hm e (by omega)
      have he1 := (hc (2 * e) (by omega))
      have he2 := (hc (2 * e + 1) (by omega))
      have heb := eb_lt hc8 he
      unfold m_36_b27
      dsimp only
      rw [r_49_0, if_neg (show ¬ J 50 0 ≤ nI e by rw [h0]; exact nI_ge he (by omega)), k_43, o_g_t, i_mul, i_add, i_add, hR J hJ _ (by omega), o_b1_s, show 4 + 2 * e = 3 + (2 * e + 1) by omega, hR J hJ _ (by omega), o_b1_s, he1.2, he2.2, i_shl (by decide) (by omega), i_shl (by decide) (by omega), Nat.one_mul, Nat.one_mul, i_or, o_b1_s, c_183 (by omega) (by omega), o_b1_s, q_bz, show 2 ^ c (2 * e) ||| 2 ^ c (2 * e + 1) = eb c e from rfl, i_and, q_e0 (Nat.lt_of_le_of_lt Nat.and_le_left (by omega)), i_or]
      by_cases k1 : set.testBit e = true
      · rw [if_pos k1]
        by_cases k2 : mr set c (mt set c n q) e &&& eb c e = 0
        · rw [if_pos k2, i_add, o_b1_s, wp_s, lq_l, mr_f (fun h => h.2 k2)]
        · rw [if_neg k2, o_b1_s, i_add, o_b1_s, wp_s, lq_l, mr_t ⟨k1, k2⟩]
      · rw [if_neg k1, i_add, o_b1_s, wp_s, lq_l, mr_f (fun h => k1 h.1)]
    · rintro s rfl
      unfold m_36_b27
      dsimp only
      rw [r_49_0, if_pos (show J 50 0 ≤ nI n by rw [h0]; exact Int32.le_refl _), wp_s, lq_r]
      unfold m_36_x27_98
      rw [i_add, o_b1_s, wp_s, lq_l]
      rfl
  · rintro s rfl
    have hm := mt_lt (set := set) (n := n) hc8 (r + 1)
    have h2 := p2_le (show r + 1 ≤ 8 by omega)
    unfold m_36_b17
    dsimp only
    rw [if_pos (Int32.le_refl _), wp_s, lq_r]
    unfold m_36_x17_104
    rw [i_shl (by decide) (by omega), Nat.one_mul, i_sub (Nat.two_pow_pos _), q_eq (by omega) (by omega)]
    by_cases k : mt set c n (r + 1) = 2 ^ (r + 1) - 1
    · rw [if_pos k, wp_s]
      exact Or.inl ⟨rfl, k⟩
    · rw [if_neg k, wp_s]
      exact Or.inr ⟨rfl, k⟩
noncomputable def gph (c : Nat → Nat) (n r k : Nat) : Int32 := if k < 2 ^ n ∧ pc k = r ∧ mt k c n (r + 1) = 2 ^ (r + 1) - 1 then nI 0 else NO
theorem c_46 {I J : ai_I} {t k n r : Nat} {L : ai_G} {c : Nat → Nat} {num : Nat → Int32} (hn : n ≤ 8) (hr : r < 8) (hR : RD I t L k num (3 + 2 * n)) (hc : ∀ i, i < 2 * n → c i < 8 ∧ num (3 + i) = nI (c i)) (h : MC I J n r (fun _ => NO)) : wp (m_35 49 43 (nI k) J (Rc t) (Gc L)) (fun K => MC I K n r (gph c n r)) := by
  have h8 := p2_le hn
  unfold m_35
  refine wp_s1 (wp_lp (fun i s => s.1 = nI i ∧ MC I s.2 n r (fun k => if k < i then gph c n r k else NO)) 0 (2 ^ n) (Nat.zero_le _) (by omega) ⟨rfl, MC_cong h (fun k _ => (if_neg (Nat.not_lt_zero _)).symm)⟩ ?_ ?_)
  · rintro i ⟨s, M⟩ hi ⟨g1, g2⟩
    dsimp only at g1 g2
    subst g1
    have hp := pc_le i
    have no : gph c n r i = NO → MC I M n r (fun k => if k < i + 1 then gph c n r k else NO) := fun hx => MC_cong g2 (fun j hj => by
      by_cases e : j = i
      · rw [e, if_neg (Nat.lt_irrefl _), if_pos (by omega), hx]
      · by_cases e2 : j < i
        · rw [if_pos e2, if_pos (by omega)]
        · rw [if_neg e2, if_neg (by omega)])
    unfold m_35_b2
    dsimp only
    rw [r_49_0, k_50, o_g_t, c_118 hn g2.2.1, o_b1_s, if_neg (nI_ge hi (by omega)), s_331 (by omega), o_b1_s]
    by_cases c1 : pc i = r
    · rw [if_pos (show nI (pc i) = M 50 1 by rw [g2.2.2.1, c1])]
      refine wp_b1 (wp_mono (c_47 hn hr hi hR hc (fun x x1 x2 _ => g2.1 x x1 x2) g2.2.1 g2.2.2.1) ?_)
      rintro y (⟨rfl, c2⟩ | ⟨rfl, c2⟩)
      · rw [q_10]
        refine wp_b1 (wp_mono (c_113 (t := t) (L := L) (k := i) (x := nI 0) g2 (by omega)) ?_)
        intro K hK
        rw [i_add, o_b1_s, wp_s, lq_l]
        refine ⟨rfl, MC_cong hK (fun j hj => ?_)⟩
        by_cases e : j = i
        · rw [e, up_eq, if_neg (Nat.lt_irrefl _), mx_no, if_pos (by omega)]
          exact (if_pos ⟨hi, c1, c2⟩).symm
        · rw [up_ne e]
          by_cases e2 : j < i
          · rw [if_pos e2, if_pos (by omega)]
          · rw [if_neg e2, if_neg (by omega)]
      · rw [q_00, i_add, o_b1_s, wp_s, lq_l]
        exact ⟨rfl, no (if_neg (fun h => c2 h.2.2))⟩
    · rw [if_neg (show ¬ nI (pc i) = M 50 1 by rw [g2.2.2.1, i_eq (by omega) (by omega)]; exact c1), i_add, o_b1_s, wp_s, lq_l]
      exact ⟨rfl, no (if_neg (fun h => c1 h.2.1))⟩
  · rintro ⟨s, M⟩ ⟨g1, g2⟩
    dsimp only at g1 g2
    subst g1
    unfold m_35_b2
    dsimp only
    rw [r_49_0, k_50, o_g_t, c_118 hn g2.2.1, o_b1_s, if_pos (Int32.le_refl _), wp_s, lq_r]
    refine ⟨M, rfl, MC_cong g2 (fun j hj => ?_)⟩
    by_cases c1 : j < 2 ^ n
    · exact if_pos c1
    · rw [if_neg c1]
      exact (if_neg (fun h => c1 h.1)).symm
