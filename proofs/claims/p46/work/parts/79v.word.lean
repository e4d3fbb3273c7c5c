/-! Out of whole's part 79v.word, by wip/p46/extract.py. -/
def WD : Nat → List Nat
  | 0 => [112, 114, 105, 99, 101]
  | 1 => [117, 110, 105, 102, 111, 114, 109]
  | 2 => [109, 97, 116, 99, 104]
  | 3 => [103, 114, 97, 112, 104]
  | 4 => [116, 111, 108, 100]
  | 5 => [100, 117, 97, 108]
  | 6 => [119, 105, 116, 104, 111, 117, 116]
  | 7 => [98, 121]
  | 8 => [115, 104, 105, 102, 116]
  | 9 => [112, 108, 117, 115]
  | 10 => [99, 117, 116]
  | 11 => [105, 110, 105, 116, 105, 97, 108]
  | 12 => [114, 97, 105, 115, 101]
  | 13 => [106, 111, 105, 110]
  | _ => []
theorem wd_sl : ∀ k, k < 14 → o_sl (2000 + k) = some (nI (WD k).length) := by decide +kernel
theorem wd_sc : ∀ k, k < 14 → ∀ i, i < 8 → i < (WD k).length → o_sc (2000 + k) (nI i) = some (nI ((WD k).getD i 0)) := by decide +kernel
theorem wd_ln : ∀ k, k < 14 → (WD k).length < 8 ∧ 0 < (WD k).length := by decide
theorem wd_lt : ∀ k, k < 14 → ∀ i, i < (WD k).length → 97 ≤ (WD k).getD i 0 ∧ (WD k).getD i 0 ≤ 122 := by decide
/-- the signs from p to q -/
def slc (T : Nat → Nat) (p q : Nat) : List Nat := (List.range (q - p)).map (fun i => T (p + i))
theorem slc_len {T : Nat → Nat} {p q : Nat} : (slc T p q).length = q - p := by
  unfold slc
  rw [List.length_map, List.length_range]
theorem slc_at {T : Nat → Nat} {p q i : Nat} (h : i < q - p) : (slc T p q).getD i 0 = T (p + i) := by
  unfold slc
  rw [List.getD_eq_getElem?_getD, List.getElem?_map, List.getElem?_range h]
  rfl
theorem slc_eq {T : Nat → Nat} {p q : Nat} {l : List Nat} (h : l.length = q - p) : slc T p q = l ↔ ∀ i, i < q - p → T (p + i) = l.getD i 0 := by
  constructor
  · intro e i hi
    rw [← e, slc_at hi]
  · intro e
    refine List.ext_getElem? (fun i => ?_)
    by_cases c : i < q - p
    · have := e i c
      unfold slc
      rw [List.getElem?_map, List.getElem?_range c, List.getElem?_eq_getElem (by omega)]
      rw [List.getD_eq_getElem?_getD, List.getElem?_eq_getElem (by omega)] at this
      exact congrArg some this
    · rw [List.getElem?_eq_none (by rw [slc_len]; omega), List.getElem?_eq_none (by omega)]
def isW (T : Nat → Nat) (p q k : Nat) : Bool := decide (slc T p q = WD k)
/-- where a word ends; its kind, or 14 -/
def wend (T : Nat → Nat) (n p : Nat) : Nat := p + rnl (ltr T n) p 256
def kdw (T : Nat → Nat) (p q : Nat) : Nat := rnl (fun k => !isW T p q k) 0 14
theorem wend_le {T : Nat → Nat} {n p : Nat} (hp : p ≤ n) : wend T n p ≤ n := by
  unfold wend
  by_cases c : rnl (ltr T n) p 256 = 0
  · omega
  · have := (ltr_i.1 (rnl_all (P := ltr T n) 256 p (rnl (ltr T n) p 256 - 1) (by omega))).1
    omega
theorem c_9 {I0 I : ai_I} {n p q f k : Nat} {L : ai_G} {e : Int32} {T : Nat → Nat} {N : Nat → Int32} (hk : k < 14) (hT : TX I0 T n) (hp : p ≤ q) (hq : q ≤ n) (h : CM I0 I q f e N) : wp (m_9 43 (2000 + k) (nI p) I (Rc 42) (Gc L)) (yn (isW T p q k = true)) := by
  have hT3 : ∀ k, k < n → T k < 256 := fun k hk => (hT.2.2 k hk).1
  obtain ⟨t1, t2, t3⟩ := hT
  obtain ⟨h1, h2, h3, h4, h5, h6⟩ := h
  have hw := wd_ln k hk
  unfold m_9
  rw [wd_sl k hk, o_b1_s, h3, i_sub hp]
  by_cases c : (WD k).length = q - p
  · rw [if_pos (show nI (WD k).length = nI (q - p) by rw [c])]
    refine wp_s2 (wp_lp (fun i s => s = nI i ∧ ∀ j, j < i → T (p + j) = (WD k).getD j 0) 0 (WD k).length (Nat.zero_le _) (by omega) ⟨rfl, fun j hj => absurd hj (Nat.not_lt_zero _)⟩ ?_ ?_)
    · rintro i s hi ⟨rfl, g⟩
      have t3' := t3 (p + i) (by omega)
      have hl := wd_lt k hk i hi
      unfold m_9_b17
      rw [wd_sl k hk, o_b1_s, if_neg (nI_ge hi (by omega)), r42_2, i_add, g_42 (by omega), o_g_t, wd_sc k hk i (by omega) hi, o_b1_s, i_cl (by omega), h1 42 (by decide) (by decide), t3'.2]
      by_cases c2 : T (p + i) = (WD k).getD i 0
      · rw [if_pos (show nI (T (p + i)) = nI ((WD k).getD i 0) by rw [c2]), i_add, o_b1_s, wp_s, lq_l]
        refine ⟨rfl, fun j hj => ?_⟩
        by_cases e2 : j = i
        · rw [e2]
          exact c2
        · exact g j (by omega)
      · rw [if_neg (show ¬ nI (T (p + i)) = nI ((WD k).getD i 0) by rw [i_eq (by omega) (by omega)]; exact c2), wp_s, lq_r, lq_l, m_9_x17_41, wp_s]
        refine Or.inr ⟨rfl, fun h => c2 ?_⟩
        exact (slc_eq c).1 (of_decide_eq_true h) i (by omega)
    · rintro s ⟨rfl, g⟩
      unfold m_9_b17
      rw [wd_sl k hk, o_b1_s, if_pos (Int32.le_refl _), wp_s, lq_r, lq_r, m_9_x17_49, wp_s]
      exact Or.inl ⟨rfl, decide_eq_true ((slc_eq c).2 (fun i hi => g i (by omega)))⟩
  · rw [if_neg (show ¬ nI (WD k).length = nI (q - p) by rw [i_eq (by omega) (by omega)]; exact c), wp_s]
    refine Or.inr ⟨rfl, fun h => c ?_⟩
    have := of_decide_eq_true h
    rw [← this, slc_len]
theorem c_10 : ∀ k, k < 14 → m_10 (nI k) = some (2000 + k) := by decide
theorem c_8 {I0 I : ai_I} {n p f : Nat} {L : ai_G} {T : Nat → Nat} {N : Nat → Int32} (hT : TX I0 T n) (hp : p ≤ n) (h : CM I0 I p f 0 N) : wp (m_8 43 I (Rc 42) (Gc L)) (fun r => (kdw T p (wend T n p) < 14 ∧ r.1 = nI (kdw T p (wend T n p)) ∧ CM I0 r.2 (wend T n p) f 0 N) ∨ (kdw T p (wend T n p) = 14 ∧ r.1 = -1 ∧ CM I0 r.2 (wend T n p) f (fa 1 p) N)) := by
  have hT3 : ∀ k, k < n → T k < 256 := fun k hk => (hT.2.2 k hk).1
  have hn := hT.2.1
  have fin : ∀ q K, q = wend T n p → CM I0 K q f 0 N → wp (m_8_x12_50 43 (Rc 42) (Gc L) (nI p) K) (fun r => (kdw T p (wend T n p) < 14 ∧ r.1 = nI (kdw T p (wend T n p)) ∧ CM I0 r.2 (wend T n p) f 0 N) ∨ (kdw T p (wend T n p) = 14 ∧ r.1 = -1 ∧ CM I0 r.2 (wend T n p) f (fa 1 p) N)) := fun q K hq hK => by
    have hqn : q ≤ n := by
      rw [hq]
      exact wend_le hp
    have hpq : p ≤ q := by
      rw [hq]
      unfold wend
      omega
    rw [← hq]
    unfold m_8_x12_50
    refine wp_s2 (wp_lp (fun i s => s = nI i ∧ ∀ j, j < i → (!isW T p q (0 + j)) = true) 0 14 (Nat.zero_le _) (by omega) ⟨rfl, fun j hj => absurd hj (Nat.not_lt_zero _)⟩ ?_ ?_)
    · rintro i s hi ⟨rfl, g⟩
      unfold m_8_b52
      rw [if_neg (nI_ge hi (by omega)), c_10 i hi, o_b1_s]
      refine wp_b1 (wp_mono (c_9 hi hT hpq hqn hK) ?_)
      rintro y hy
      rcases hy with ⟨rfl, hw⟩ | ⟨rfl, hw⟩
      · have e : kdw T p q = i := rnl_is (P := fun k => !isW T p q k) 14 0 i g (by omega) (Or.inr (by rw [Nat.zero_add, hw]; decide))
        rw [if_neg (show ¬ nI 1 = 0 by decide), wp_s, lq_r, lq_l, m_8_x52_70, wp_s, e]
        exact Or.inl ⟨hi, rfl, hK⟩
      · rw [if_pos (show nI 0 = 0 from rfl), i_add, o_b1_s, wp_s, lq_l]
        refine ⟨rfl, fun j hj => ?_⟩
        by_cases e2 : j = i
        · rw [e2, Nat.zero_add, Bool.eq_false_iff.2 hw]
          rfl
        · exact g j (by omega)
    · rintro s ⟨rfl, g⟩
      unfold m_8_b52
      rw [if_pos (Int32.le_refl _), wp_s, lq_r, lq_r]
      unfold m_8_x52_78
      refine wp_b1 (wp_mono (c_5 hK) ?_)
      intro M hM
      rw [if_pos rfl] at hM
      have e : kdw T p q = 14 := rnl_is (P := fun k => !isW T p q k) 14 0 14 g (Nat.le_refl _) (Or.inl rfl)
      rw [wp_s, e]
      exact Or.inr ⟨rfl, rfl, hM⟩
  unfold m_8
  have hC3 := h.2.1 3 (by decide) (by decide) (by decide)
  rw [h.2.2.1, o_b1_s, hC3, hT.1, i_sub hp, o_b1_s]
  refine wp_s1 (wp_lp (fun i s => s.1 = nI (n - p - i) ∧ (∀ j, j < i → ltr T n (p + j) = true) ∧ p + i ≤ n ∧ CM I0 s.2 (p + i) f 0 N) 0 (n - p) (Nat.zero_le _) (by omega) ⟨rfl, fun j hj => absurd hj (Nat.not_lt_zero _), hp, h⟩ ?_ ?_)
  · rintro i ⟨a, K⟩ hi ⟨g1, g2, g3, g4⟩
    dsimp only at g1 g2 g3 g4
    subst g1
    unfold m_8_b12
    dsimp only
    have hs := sg_in (T := T) (n := n) (p := p + i) hT3 (show 122 < 256 by decide) (show 97 ≤ 122 by decide)
    rw [← ltr_i] at hs
    have stop : ¬ ltr T n (p + i) = true → wp (m_8_x12_50 43 (Rc 42) (Gc L) (nI p) K) (fun r => (kdw T p (wend T n p) < 14 ∧ r.1 = nI (kdw T p (wend T n p)) ∧ CM I0 r.2 (wend T n p) f 0 N) ∨ (kdw T p (wend T n p) = 14 ∧ r.1 = -1 ∧ CM I0 r.2 (wend T n p) f (fa 1 p) N)) := fun hb => by
      refine fin (p + i) K ?_ g4
      unfold wend
      rw [rnl_is (P := ltr T n) 256 p i g2 (by omega) (Or.inr hb)]
    rw [if_neg (show ¬ nI (n - p - i) ≤ 0 from nI_ge (show 0 < n - p - i by omega) (by omega)), c_6 hT g3 g4, o_b1_s]
    by_cases c1 : sgI T n (p + i) < nI 97
    · rw [if_pos c1, wp_s, lq_r]
      exact stop (fun h => Int32.not_le.2 c1 (hs.2 h).1)
    · rw [if_neg c1, o_b1_s]
      by_cases c2 : nI 122 < sgI T n (p + i)
      · rw [if_pos c2, wp_s, lq_r]
        exact stop (fun h => Int32.not_le.2 c2 (hs.2 h).2)
      · rw [if_neg c2, o_b1_s, g4.2.2.1, i_add, show nI (n - p - i) = nI (n - p - (i + 1) + 1) by rw [show n - p - (i + 1) + 1 = n - p - i by omega], i_dec, o_b1_s, wp_s, lq_l]
        refine ⟨rfl, fun j hj => ?_, by omega, CM_p g4⟩
        by_cases e2 : j = i
        · rw [e2]
          exact hs.1 ⟨Int32.not_lt.1 c1, Int32.not_lt.1 c2⟩
        · exact g2 j (by omega)
  · rintro ⟨a, K⟩ ⟨g1, g2, g3, g4⟩
    dsimp only at g1 g2 g3 g4
    subst g1
    unfold m_8_b12
    dsimp only
    rw [if_pos (show nI (n - p - (n - p)) ≤ 0 by rw [Nat.sub_self]; exact Int32.le_refl _), wp_s, lq_r]
    refine fin (p + (n - p)) K ?_ g4
    unfold wend
    rw [rnl_is (P := ltr T n) 256 p (n - p) g2 (by omega) (Or.inr (fun h => by
      have := (ltr_i.1 h).1
      omega))]
