/-! Constructors: the class, the reference; the law. Printed by wip/whole/ctor.py. -/
theorem wp_b4 {α α2 α3 α4 γ : Type} {x : Option (α × α2 × α3 × α4)} {f : α → α2 → α3 → α4 → Option γ} {Q : γ → Prop} (h : wp x (fun a => wp (f a.1 a.2.1 a.2.2.1 a.2.2.2) Q)) : wp (o_b4 x f) Q := by
  obtain ⟨a, rfl, h⟩ := h
  exact h
theorem zs {K : ai_I} {a j : Nat} {x : Int32} (h : K a j = x) : va_up K a (va_up (K a) j x) = K := by
  rw [up_self h, up_self rfl]
def fCls : List (Nat × Nat × Nat) := [(1, 14, 74), (1, 13, 73), (1, 12, 67), (67, 4, 72), (67, 3, 71), (67, 2, 70), (67, 1, 69), (67, 0, 68), (1, 11, 63), (63, 2, 66), (63, 1, 65), (63, 0, 64), (1, 10, 61), (61, 3, 62), (1, 9, 59), (59, 0, 60), (1, 8, 57), (57, 0, 58), (1, 7, 55), (55, 3, 56), (1, 6, 49), (49, 1, 54), (49, 0, 50), (50, 5, 53), (50, 4, 52), (50, 3, 51), (1, 5, 43), (43, 9, 48), (43, 7, 47), (43, 6, 46), (43, 5, 45), (43, 2, 44), (1, 3, 42), (1, 1, 22), (23, 3, 38), (38, 5, 41), (38, 4, 40), (38, 3, 39), (23, 2, 34), (34, 5, 37), (34, 4, 36), (34, 3, 35), (23, 1, 30), (30, 5, 33), (30, 4, 32), (30, 3, 31), (23, 0, 26), (26, 5, 29), (26, 4, 28), (26, 3, 27), (22, 2, 25), (22, 1, 24), (22, 0, 23), (1, 0, 2), (3, 3, 18), (18, 5, 21), (18, 4, 20), (18, 3, 19), (3, 2, 14), (14, 5, 17), (14, 4, 16), (14, 3, 15), (3, 1, 10), (10, 5, 13), (10, 4, 12), (10, 3, 11), (3, 0, 6), (6, 5, 9), (6, 4, 8), (6, 3, 7), (2, 2, 5), (2, 1, 4), (2, 0, 3)]
theorem c_136 {L : Nat} {I : ai_I} {J : ai_J} (hI : ∀ a, ¬ a = 1999 → I a = fun _ => 0) : wp (m_136 1 I J (rf []) (Gk L 1)) (fun q => q.2.2.1 = rf fCls ∧ q.2.2.2 = Gk L 74 ∧ Zr 41 q.1 ∧ (∀ c, c < 2 ∨ c = 1999 → q.1 c = I c) ∧ q.1 2 3 = nI 0 ∧ q.1 2 4 = nI 1 ∧ (q.1 4 = fun _ => 0) ∧ ∀ s, s < 4 → CS q.1 (6 + 4 * s) 2 1 V0) := by
  have hZ : Zr 1 I := fun a h1 h2 => hI a h2
  unfold m_136
  rw [nn_t (by decide), o_g_t]
  refine al_o (k2 := 2) rfl (by decide) rfl rfl (Zr_s hZ (by decide)) (by unfold rle; decide +kernel) ?_
  intro J2
  refine wp_b4 (wp_mono (c_95 (L := L) (k := 2) (Or.inl rfl) (Zr_s hZ (by decide)) (hI 2 (by decide)) (by unfold rle; decide +kernel)) ?_)
  rintro ⟨K2, W2, R2, G2⟩ ⟨p21, p22, p23, p24, p25, p26, p27, p28, p29⟩
  dsimp only at p21 p22 p23 p24 p25 p26 p27 p28 p29 ⊢
  subst p21
  subst p22
  replace hZ := p23
  refine st_r (by decide) (by decide) rfl ?_
  refine al_o (k2 := 22) rfl (by decide) rfl rfl (Zr_s hZ (by decide)) (by unfold rle; decide +kernel) ?_
  intro J22
  have z22 : K2 22 = fun _ => 0 := hZ 22 (by decide) (by decide)
  refine wp_b4 (wp_mono (c_95 (L := L) (k := 22) (Or.inr rfl) (Zr_s hZ (by decide)) z22 (by unfold rle; decide +kernel)) ?_)
  rintro ⟨K22, W22, R22, G22⟩ ⟨p221, p222, p223, p224, p225, p226, p227, p228, p229⟩
  dsimp only at p221 p222 p223 p224 p225 p226 p227 p228 p229 ⊢
  subst p221
  subst p222
  replace hZ := p223
  refine st_r (by decide) (by decide) rfl ?_
  have z1 : K22 1 = fun _ => 0 := by rw [p224 1 (Or.inl (by decide)), p24 1 (Or.inl (by decide)), hI 1 (by decide)]
  rw [zs (show K22 1 2 = nI 0 by rw [z1]; rfl), o_b1_s]
  refine al_i (k2 := 42) rfl (by decide) rfl rfl (Zr_s hZ (by decide)) ?_
  refine st_r (by decide) (by decide) rfl ?_
  rw [zs (show K22 1 4 = nI 0 by rw [z1]; rfl), o_b1_s]
  refine al_o (k2 := 43) rfl (by decide) rfl rfl (Zr_s hZ (by decide)) (by unfold rle; decide +kernel) ?_
  intro J43
  refine wp_b3 ?_
  unfold m_0
  rw [nn_t (by decide), o_g_t]
  refine al_i (k2 := 44) rfl (by decide) rfl rfl (Zr_s hZ (by decide)) ?_
  refine st_r (by decide) (by decide) rfl ?_
  refine al_i (k2 := 45) rfl (by decide) rfl rfl (Zr_s hZ (by decide)) ?_
  refine st_r (by decide) (by decide) rfl ?_
  refine al_i (k2 := 46) rfl (by decide) rfl rfl (Zr_s hZ (by decide)) ?_
  refine st_r (by decide) (by decide) rfl ?_
  refine al_i (k2 := 47) rfl (by decide) rfl rfl (Zr_s hZ (by decide)) ?_
  refine st_r (by decide) (by decide) rfl ?_
  refine al_i (k2 := 48) rfl (by decide) rfl rfl (Zr_s hZ (by decide)) ?_
  refine st_r (by decide) (by decide) rfl ?_
  rw [wp_s]
  dsimp only
  refine st_r (by decide) (by decide) rfl ?_
  refine al_o (k2 := 49) rfl (by decide) rfl rfl (Zr_s hZ (by decide)) (by unfold rle; decide +kernel) ?_
  intro J49
  refine wp_b4 ?_
  unfold m_37
  rw [nn_t (by decide), o_g_t]
  refine al_o (k2 := 50) rfl (by decide) rfl rfl (Zr_s hZ (by decide)) (by unfold rle; decide +kernel) ?_
  intro J50
  refine wp_b3 (c_111 (by decide) (by decide) ⟨rfl, rfl, rfl, rfl, rfl, rfl, rfl⟩ (Zr_s hZ (by decide)) ?_)
  dsimp only
  refine st_r (by decide) (by decide) rfl ?_
  refine al_i (k2 := 54) rfl (by decide) rfl rfl (Zr_s hZ (by decide)) ?_
  refine st_r (by decide) (by decide) rfl ?_
  rw [wp_s]
  dsimp only
  refine st_r (by decide) (by decide) rfl ?_
  refine al_o (k2 := 55) rfl (by decide) rfl rfl (Zr_s hZ (by decide)) (by unfold rle; decide +kernel) ?_
  intro J55
  refine wp_b3 ?_
  unfold m_31
  rw [nn_t (by decide), o_g_t]
  refine al_i (k2 := 56) rfl (by decide) rfl rfl (Zr_s hZ (by decide)) ?_
  refine st_r (by decide) (by decide) rfl ?_
  rw [wp_s]
  dsimp only
  refine st_r (by decide) (by decide) rfl ?_
  refine al_o (k2 := 57) rfl (by decide) rfl rfl (Zr_s hZ (by decide)) (by unfold rle; decide +kernel) ?_
  intro J57
  refine wp_b3 ?_
  unfold m_101
  rw [nn_t (by decide), o_g_t]
  refine al_i (k2 := 58) rfl (by decide) rfl rfl (Zr_s hZ (by decide)) ?_
  refine st_r (by decide) (by decide) rfl ?_
  rw [wp_s]
  dsimp only
  refine st_r (by decide) (by decide) rfl ?_
  refine al_o (k2 := 59) rfl (by decide) rfl rfl (Zr_s hZ (by decide)) (by unfold rle; decide +kernel) ?_
  intro J59
  refine wp_b3 ?_
  unfold m_87
  rw [nn_t (by decide), o_g_t]
  refine al_i (k2 := 60) rfl (by decide) rfl rfl (Zr_s hZ (by decide)) ?_
  refine st_r (by decide) (by decide) rfl ?_
  rw [wp_s]
  dsimp only
  refine st_r (by decide) (by decide) rfl ?_
  refine al_o (k2 := 61) rfl (by decide) rfl rfl (Zr_s hZ (by decide)) (by unfold rle; decide +kernel) ?_
  intro J61
  refine wp_b3 ?_
  unfold m_22
  rw [nn_t (by decide), o_g_t]
  refine al_i (k2 := 62) rfl (by decide) rfl rfl (Zr_s hZ (by decide)) ?_
  refine st_r (by decide) (by decide) rfl ?_
  rw [wp_s]
  dsimp only
  refine st_r (by decide) (by decide) rfl ?_
  refine al_o (k2 := 63) rfl (by decide) rfl rfl (Zr_s hZ (by decide)) (by unfold rle; decide +kernel) ?_
  intro J63
  refine wp_b3 ?_
  unfold m_126
  rw [nn_t (by decide), o_g_t]
  refine al_i (k2 := 64) rfl (by decide) rfl rfl (Zr_s hZ (by decide)) ?_
  refine st_r (by decide) (by decide) rfl ?_
  refine al_i (k2 := 65) rfl (by decide) rfl rfl (Zr_s hZ (by decide)) ?_
  refine st_r (by decide) (by decide) rfl ?_
  refine al_i (k2 := 66) rfl (by decide) rfl rfl (Zr_s hZ (by decide)) ?_
  refine st_r (by decide) (by decide) rfl ?_
  rw [wp_s]
  dsimp only
  refine st_r (by decide) (by decide) rfl ?_
  refine al_o (k2 := 67) rfl (by decide) rfl rfl (Zr_s hZ (by decide)) (by unfold rle; decide +kernel) ?_
  intro J67
  refine wp_b4 ?_
  unfold m_58
  rw [nn_t (by decide), o_g_t]
  refine al_i (k2 := 68) rfl (by decide) rfl rfl (Zr_s hZ (by decide)) ?_
  refine st_r (by decide) (by decide) rfl ?_
  refine al_i (k2 := 69) rfl (by decide) rfl rfl (Zr_s hZ (by decide)) ?_
  refine st_r (by decide) (by decide) rfl ?_
  refine al_i (k2 := 70) rfl (by decide) rfl rfl (Zr_s hZ (by decide)) ?_
  refine st_r (by decide) (by decide) rfl ?_
  refine al_j (k2 := 71) rfl (by decide) rfl rfl ?_
  intro J71
  refine st_r (by decide) (by decide) rfl ?_
  refine al_j (k2 := 72) rfl (by decide) rfl rfl ?_
  intro J72
  refine st_r (by decide) (by decide) rfl ?_
  rw [wp_s]
  dsimp only
  refine st_r (by decide) (by decide) rfl ?_
  refine al_i (k2 := 73) rfl (by decide) rfl rfl (Zr_s hZ (by decide)) ?_
  refine st_r (by decide) (by decide) rfl ?_
  refine al_i (k2 := 74) rfl (by decide) rfl rfl (Zr_s hZ (by decide)) ?_
  refine st_r (by decide) (by decide) rfl ?_
  rw [wp_s]
  exact ⟨rfl, rfl, hZ, fun c hc => by dsimp only; rw [p224 c (by omega), p24 c (by omega)], by dsimp only; rw [p224 2 (Or.inl (by decide))]; exact p25, by dsimp only; rw [p224 2 (Or.inl (by decide))]; exact p26, by dsimp only; rw [p224 4 (Or.inl (by decide))]; exact p27, fun s hs => CS_cong (fun _ _ => rfl) (p224 _ (by omega)) (p224 _ (by omega)) (p224 _ (by omega)) (p224 _ (by omega)) (p29 s hs)⟩
def fAll : List (Nat × Nat × Nat) := [(75, 33, 93), (75, 32, 92), (75, 31, 91), (75, 29, 90), (75, 28, 89), (75, 27, 88), (75, 26, 87), (75, 25, 86), (75, 24, 85), (75, 22, 84), (75, 20, 83), (75, 17, 82), (75, 16, 81), (75, 15, 80), (75, 14, 79), (75, 13, 78), (75, 2, 77), (75, 0, 76), (1, 14, 74), (1, 13, 73), (1, 12, 67), (67, 4, 72), (67, 3, 71), (67, 2, 70), (67, 1, 69), (67, 0, 68), (1, 11, 63), (63, 2, 66), (63, 1, 65), (63, 0, 64), (1, 10, 61), (61, 3, 62), (1, 9, 59), (59, 0, 60), (1, 8, 57), (57, 0, 58), (1, 7, 55), (55, 3, 56), (1, 6, 49), (49, 1, 54), (49, 0, 50), (50, 5, 53), (50, 4, 52), (50, 3, 51), (1, 5, 43), (43, 9, 48), (43, 7, 47), (43, 6, 46), (43, 5, 45), (43, 2, 44), (1, 3, 42), (1, 1, 22), (23, 3, 38), (38, 5, 41), (38, 4, 40), (38, 3, 39), (23, 2, 34), (34, 5, 37), (34, 4, 36), (34, 3, 35), (23, 1, 30), (30, 5, 33), (30, 4, 32), (30, 3, 31), (23, 0, 26), (26, 5, 29), (26, 4, 28), (26, 3, 27), (22, 2, 25), (22, 1, 24), (22, 0, 23), (1, 0, 2), (3, 3, 18), (18, 5, 21), (18, 4, 20), (18, 3, 19), (3, 2, 14), (14, 5, 17), (14, 4, 16), (14, 3, 15), (3, 1, 10), (10, 5, 13), (10, 4, 12), (10, 3, 11), (3, 0, 6), (6, 5, 9), (6, 4, 8), (6, 3, 7), (2, 2, 5), (2, 1, 4), (2, 0, 3)]
theorem rf_out {a j : Nat} : ∀ {l : List (Nat × Nat × Nat)}, (∀ e ∈ l, ¬ (e.1 = a ∧ e.2.1 = j)) → rf l a j = 0
  | [], _ => rfl
  | (b, i, x) :: l, h => by
    show (if a = b ∧ j = i then x else rf l a j) = 0
    rw [if_neg (fun hh => h (b, i, x) List.mem_cons_self ⟨hh.1.symm, hh.2.symm⟩), rf_out (fun e he => h e (List.mem_cons_of_mem _ he))]
theorem getD_hi {α : Type} {l : List α} {a : Nat} {d : α} (h : l.length ≤ a) : l.getD a d = d := by
  rw [List.getD_eq_getElem?_getD, List.getElem?_eq_none h]
  rfl
theorem rf_in : ∀ a, a < 94 → ∀ j, j < 40 → rf fAll a j = Rc 44 a j := by decide +kernel
theorem rf_all : ∀ e ∈ fAll, e.1 < 94 ∧ e.2.1 < 40 := by decide +kernel
theorem rL_ln : rL.length ≤ 94 := by decide
theorem rL_rw : ∀ a, a < 94 → (rL.getD a []).length ≤ 40 := by decide +kernel
theorem rf_end : rf fAll = Rc 44 := by
  funext a j
  by_cases c : a < 94 ∧ j < 40
  · exact rf_in a c.1 j c.2
  · have h1 : rf fAll a j = 0 := rf_out (fun e he hh => c (by
      have := rf_all e he
      rw [hh.1, hh.2] at this
      exact this))
    have h2 : Rc 44 a j = 0 := by
      unfold Rc
      rw [if_neg (fun h => c ⟨by omega, by omega⟩)]
      by_cases d : a < 94
      · exact getD_hi (Nat.le_trans (rL_rw a d) (by omega))
      · rw [show rL.getD a [] = [] from getD_hi (Nat.le_trans rL_ln (by omega))]
        rfl
    rw [h1, h2]
theorem kL_ln : kL.length ≤ 94 ∧ nL.length ≤ 94 := by decide
theorem gk_end {L : Nat} : Gk L 93 = Gc L := by
  have e1 : (Gk L 93).1 = (Gc L).1 := by
    funext a
    show (if a = 1999 then 16 else if a ≤ 93 then kL.getD a 99 else 99) = if a = 1999 then 16 else kL.getD a 99
    by_cases c : a ≤ 93
    · rw [if_pos c]
    · rw [if_neg c, getD_hi (Nat.le_trans kL_ln.1 (by omega))]
  have e2 : (Gk L 93).2.1 = (Gc L).2.1 := by
    funext a
    show (if a = 1999 then L else if a ≤ 93 then nL.getD a 0 else 0) = if a = 1999 then L else nL.getD a 0
    by_cases c : a ≤ 93
    · rw [if_pos c]
    · rw [if_neg c, getD_hi (Nat.le_trans kL_ln.2 (by omega))]
  show ((Gk L 93).1, (Gk L 93).2.1, 93) = ((Gc L).1, (Gc L).2.1, 93)
  rw [e1, e2]
/-- the reference's file as it begins -/
theorem s_188l {I : ai_I} {J : ai_J} {L : Nat} (h0 : I 76 = fun _ => 0) : wp (o_s1 (lp (fun s => m_188_b161 75 (Gc L) (Rc 44) s.1 s.2) o_N ((nI 0), I)) (fun t => m_188_x161_241 75 J (Gc L) (Rc 44) t)) (fun q => q.2.2.1 = Rc 44 ∧ q.2.2.2 = Gc L ∧ (∀ c, ¬ c = 76 → q.1 c = I c) ∧ (∀ s, s < 4 → q.1 76 (258 * s) = nI 2 ∧ q.1 76 (258 * s + 1) = nI 1 ∧ ∀ k, k < 256 → q.1 76 (258 * s + 2 + k) = V0 k) ∧ q.1 76 1040 = nI 1 ∧ ∀ j, 1032 ≤ j → ¬ j = 1040 → q.1 76 j = 0) := by
  refine wp_s1 (wp_lp (fun s x => x.1 = nI s ∧ (∀ c, ¬ c = 76 → x.2 c = I c) ∧ (∀ s2, s2 < s → x.2 76 (258 * s2) = nI 2 ∧ x.2 76 (258 * s2 + 1) = nI 1 ∧ ∀ k, k < 256 → x.2 76 (258 * s2 + 2 + k) = V0 k) ∧ ∀ j, 258 * s ≤ j → x.2 76 j = 0) 0 4 (Nat.zero_le _) (by omega) ⟨rfl, fun _ _ => rfl, fun s hs => absurd hs (Nat.not_lt_zero _), fun j _ => by dsimp only; rw [h0]⟩ ?_ ?_)
  · rintro s ⟨v, K⟩ hs ⟨g1, g2, g3, g4⟩
    dsimp only at g1 g2 g3 g4
    subst g1
    unfold m_188_b161
    dsimp only
    rw [if_neg (nI_ge hs (by decide))]
    refine wp_s1 (wp_lp (fun i x => x.1 = nI i ∧ (∀ c, ¬ c = 76 → x.2 c = K c) ∧ (∀ j, j < 258 * s + 2 ∨ 258 * s + 2 + i ≤ j → x.2 76 j = K 76 j) ∧ ∀ j, j < i → x.2 76 (258 * s + 2 + j) = V0 j) 0 256 (Nat.zero_le _) (by omega) ⟨rfl, fun _ _ => rfl, fun _ _ => rfl, fun j hj => absurd hj (Nat.not_lt_zero _)⟩ ?_ ?_)
    · rintro i ⟨w, M⟩ hi ⟨f1, f2, f3, f4⟩
      dsimp only at f1 f2 f3 f4
      subst f1
      have put : ∀ y, y = V0 i → wp (m_188_j204 75 (Gc L) (Rc 44) (nI s) (nI i) M y) (lq (fun x : Int32 × ai_I => x.1 = nI (i + 1) ∧ (∀ c, ¬ c = 76 → x.2 c = K c) ∧ (∀ j, j < 258 * s + 2 ∨ 258 * s + 2 + (i + 1) ≤ j → x.2 76 j = K 76 j) ∧ ∀ j, j < i + 1 → x.2 76 (258 * s + 2 + j) = V0 j) (fun t => wp (m_188_x168_211 75 (Gc L) (Rc 44) (nI s) t) (lq (fun x : Int32 × ai_I => x.1 = nI (s + 1) ∧ (∀ c, ¬ c = 76 → x.2 c = I c) ∧ (∀ s2, s2 < s + 1 → x.2 76 (258 * s2) = nI 2 ∧ x.2 76 (258 * s2 + 1) = nI 1 ∧ ∀ k, k < 256 → x.2 76 (258 * s2 + 2 + k) = V0 k) ∧ ∀ j, 258 * (s + 1) ≤ j → x.2 76 j = 0) (fun t => wp (m_188_x161_241 75 J (Gc L) (Rc 44) t) (fun q => q.2.2.1 = Rc 44 ∧ q.2.2.2 = Gc L ∧ (∀ c, ¬ c = 76 → q.1 c = I c) ∧ (∀ s, s < 4 → q.1 76 (258 * s) = nI 2 ∧ q.1 76 (258 * s + 1) = nI 1 ∧ ∀ k, k < 256 → q.1 76 (258 * s + 2 + k) = V0 k) ∧ q.1 76 1040 = nI 1 ∧ ∀ j, 1032 ≤ j → ¬ j = 1040 → q.1 76 j = 0))))) := fun y hy => by
        unfold m_188_j204
        rw [r_75_0, i_mul, i_add, i_add, g_76 (by omega), o_g_t, i_cl (by omega), o_b1_s, i_add, o_b1_s, wp_s, lq_l]
        refine ⟨rfl, fun c hc => by dsimp only; rw [up_ne hc]; exact f2 c hc, fun j hj => by dsimp only; rw [up_eq, up_ne (by omega)]; exact f3 j (by omega), fun j hj => ?_⟩
        dsimp only
        rw [up_eq]
        by_cases e : j = i
        · rw [e, up_eq, hy]
        · rw [up_ne (by omega)]
          exact f4 j (by omega)
      unfold m_188_b168
      dsimp only
      rw [if_neg (nI_ge hi (by decide))]
      by_cases c1 : i = 1
      · rw [if_pos (show nI i = nI 1 by rw [c1])]
        unfold m_188_j198
        exact put _ (by rw [c1]; rfl)
      · rw [if_neg (show ¬ nI i = nI 1 by rw [i_eq (by omega) (by decide)]; exact c1)]
        by_cases c2 : i = 2
        · rw [if_pos (show nI i = nI 2 by rw [c2])]
          unfold m_188_j198
          exact put _ (by rw [c2]; rfl)
        · rw [if_neg (show ¬ nI i = nI 2 by rw [i_eq (by omega) (by decide)]; exact c2)]
          exact put _ (by unfold V0; rw [if_neg (by omega)])
    · rintro ⟨w, M⟩ ⟨f1, f2, f3, f4⟩
      dsimp only at f1 f2 f3 f4
      subst f1
      unfold m_188_b168
      dsimp only
      rw [if_pos (Int32.le_refl _), wp_s, lq_r]
      unfold m_188_x168_211
      rw [r_75_0, i_mul, g_76 (by omega), o_g_t, i_cl (by omega), o_b1_s, i_add, g_76 (by omega), o_g_t, i_cl (by omega), o_b1_s, i_add, o_b1_s, wp_s, lq_l]
      have out : ∀ j, ¬ j = 258 * s → ¬ j = 258 * s + 1 → va_up (va_up M 76 (va_up (M 76) (258 * s) (nI 2))) 76 (va_up (va_up M 76 (va_up (M 76) (258 * s) (nI 2)) 76) (258 * s + 1) (nI 1)) 76 j = M 76 j := fun j j1 j2 => by rw [up_eq, up_ne j2, up_eq, up_ne j1]
      refine ⟨rfl, fun c hc => by dsimp only; rw [up_ne hc, up_ne hc, f2 c hc]; exact g2 c hc, fun s2 hs2 => ?_, fun j hj => ?_⟩
      · dsimp only
        by_cases e : s2 = s
        · subst e
          refine ⟨by rw [up_eq, up_ne (by omega), up_eq, up_eq], by rw [up_eq, up_eq], fun k hk => ?_⟩
          rw [out _ (by omega) (by omega)]
          exact f4 k hk
        · obtain ⟨q1, q2, q3⟩ := g3 s2 (by omega)
          refine ⟨by rw [out _ (by omega) (by omega), f3 _ (by omega)]; exact q1, by rw [out _ (by omega) (by omega), f3 _ (by omega)]; exact q2, fun k hk => ?_⟩
          rw [out _ (by omega) (by omega), f3 _ (by omega)]
          exact q3 k hk
      · dsimp only
        rw [out _ (by omega) (by omega), f3 _ (by omega)]
        exact g4 j (by omega)
  · rintro ⟨v, K⟩ ⟨g1, g2, g3, g4⟩
    dsimp only at g1 g2 g3 g4
    subst g1
    unfold m_188_b161
    dsimp only
    rw [if_pos (Int32.le_refl _), wp_s, lq_r]
    unfold m_188_x161_241
    rw [r_75_0, g_76 (by decide), o_g_t, show (nI 1040).toNatClampNeg = 1040 from rfl, o_b1_s, wp_s]
    refine ⟨rfl, rfl, fun c hc => by dsimp only; rw [up_ne hc]; exact g2 c hc, fun s hs => ?_, by dsimp only; rw [up_eq, up_eq], fun j j1 j2 => by dsimp only; rw [up_eq, up_ne j2]; exact g4 j (by omega)⟩
    obtain ⟨q1, q2, q3⟩ := g3 s hs
    dsimp only
    rw [up_eq]
    exact ⟨by rw [up_ne (by omega)]; exact q1, by rw [up_ne (by omega)]; exact q2, fun k hk => by rw [up_ne (by omega)]; exact q3 k hk⟩
theorem s_188 {L : Nat} {I : ai_I} {J : ai_J} (hZ : Zr 75 I) : wp (m_188 75 I J (rf fCls) (Gk L 75)) (fun q => q.2.2.1 = Rc 44 ∧ q.2.2.2 = Gc L ∧ (∀ c, ¬ c = 76 → q.1 c = I c) ∧ (∀ s, s < 4 → q.1 76 (258 * s) = nI 2 ∧ q.1 76 (258 * s + 1) = nI 1 ∧ ∀ k, k < 256 → q.1 76 (258 * s + 2 + k) = V0 k) ∧ q.1 76 1040 = nI 1 ∧ ∀ j, 1032 ≤ j → ¬ j = 1040 → q.1 76 j = 0) := by
  unfold m_188
  rw [nn_t (by decide), o_g_t]
  refine al_i (k2 := 76) rfl (by decide) rfl rfl (Zr_s hZ (by decide)) ?_
  refine st_r (by decide) (by decide) rfl ?_
  refine al_i (k2 := 77) rfl (by decide) rfl rfl (Zr_s hZ (by decide)) ?_
  refine st_r (by decide) (by decide) rfl ?_
  refine al_j (k2 := 78) rfl (by decide) rfl rfl ?_
  intro J78
  refine st_r (by decide) (by decide) rfl ?_
  refine al_i (k2 := 79) rfl (by decide) rfl rfl (Zr_s hZ (by decide)) ?_
  refine st_r (by decide) (by decide) rfl ?_
  refine al_i (k2 := 80) rfl (by decide) rfl rfl (Zr_s hZ (by decide)) ?_
  refine st_r (by decide) (by decide) rfl ?_
  refine al_i (k2 := 81) rfl (by decide) rfl rfl (Zr_s hZ (by decide)) ?_
  refine st_r (by decide) (by decide) rfl ?_
  refine al_i (k2 := 82) rfl (by decide) rfl rfl (Zr_s hZ (by decide)) ?_
  refine st_r (by decide) (by decide) rfl ?_
  refine al_i (k2 := 83) rfl (by decide) rfl rfl (Zr_s hZ (by decide)) ?_
  refine st_r (by decide) (by decide) rfl ?_
  refine al_i (k2 := 84) rfl (by decide) rfl rfl (Zr_s hZ (by decide)) ?_
  refine st_r (by decide) (by decide) rfl ?_
  refine al_i (k2 := 85) rfl (by decide) rfl rfl (Zr_s hZ (by decide)) ?_
  refine st_r (by decide) (by decide) rfl ?_
  refine al_i (k2 := 86) rfl (by decide) rfl rfl (Zr_s hZ (by decide)) ?_
  refine st_r (by decide) (by decide) rfl ?_
  refine al_i (k2 := 87) rfl (by decide) rfl rfl (Zr_s hZ (by decide)) ?_
  refine st_r (by decide) (by decide) rfl ?_
  refine al_i (k2 := 88) rfl (by decide) rfl rfl (Zr_s hZ (by decide)) ?_
  refine st_r (by decide) (by decide) rfl ?_
  refine al_i (k2 := 89) rfl (by decide) rfl rfl (Zr_s hZ (by decide)) ?_
  refine st_r (by decide) (by decide) rfl ?_
  refine al_i (k2 := 90) rfl (by decide) rfl rfl (Zr_s hZ (by decide)) ?_
  refine st_r (by decide) (by decide) rfl ?_
  refine al_i (k2 := 91) rfl (by decide) rfl rfl (Zr_s hZ (by decide)) ?_
  refine st_r (by decide) (by decide) rfl ?_
  refine al_i (k2 := 92) rfl (by decide) rfl rfl (Zr_s hZ (by decide)) ?_
  refine st_r (by decide) (by decide) rfl ?_
  refine al_i (k2 := 93) rfl (by decide) rfl rfl (Zr_s hZ (by decide)) ?_
  refine st_r (by decide) (by decide) rfl ?_
  rw [gk_end, show rf ((75, 33, 93) :: (75, 32, 92) :: (75, 31, 91) :: (75, 29, 90) :: (75, 28, 89) :: (75, 27, 88) :: (75, 26, 87) :: (75, 25, 86) :: (75, 24, 85) :: (75, 22, 84) :: (75, 20, 83) :: (75, 17, 82) :: (75, 16, 81) :: (75, 15, 80) :: (75, 14, 79) :: (75, 13, 78) :: (75, 2, 77) :: (75, 0, 76) :: fCls) = Rc 44 from rf_end]
  exact s_188l (hZ 76 (by decide) (by decide))
/-- the law is kept -/
theorem law_ok {L : Nat} {xs : Nat → Int32} (hL : L ≤ 3072) : m_333 (fun a => if a = 1999 then xs else fun _ => 0) (fun _ _ => 0) (fun _ _ => 0) (fun a => if a = 1999 then 16 else 99, fun a => if a = 1999 then L else 0, 0) = some (nI 1) := by
  have hG : ((fun a => if a = 1999 then 16 else 99, fun a => if a = 1999 then L else 0, 0) : ai_G) = Gk L 0 := by
    have e1 : (fun a : Nat => if a = 1999 then 16 else 99) = (Gk L 0).1 := by
      funext a
      show _ = if a = 1999 then 16 else if a ≤ 0 then kL.getD a 99 else 99
      by_cases c : a ≤ 0
      · obtain rfl : a = 0 := by omega
        rfl
      · rw [if_neg c]
    have e2 : (fun a : Nat => if a = 1999 then L else 0) = (Gk L 0).2.1 := by
      funext a
      show _ = if a = 1999 then L else if a ≤ 0 then nL.getD a 0 else 0
      by_cases c : a ≤ 0
      · obtain rfl : a = 0 := by omega
        rfl
      · rw [if_neg c]
    rw [e1, e2]
    rfl
  have hI : ∀ a, ¬ a = 1999 → (fun a => if a = 1999 then xs else fun _ => (0 : Int32) : ai_I) a = fun _ => 0 := fun a ha => if_neg ha
  have h99 : (fun a => if a = 1999 then xs else fun _ => (0 : Int32) : ai_I) 1999 = xs := if_pos rfl
  have key : wp (m_333 (fun a => if a = 1999 then xs else fun _ => 0) (fun _ _ => 0) (rf []) (Gk L 0)) (fun r => r = nI 1) := by
    generalize (fun a => if a = 1999 then xs else fun _ => (0 : Int32) : ai_I) = I at hI h99 ⊢
    unfold m_333
    refine al_o (k2 := 1) rfl (by decide) rfl rfl (fun a _ h2 => hI a h2) (fun e he => by cases he) ?_
    intro J1
    refine wp_b4 (wp_mono (c_136 hI) ?_)
    rintro ⟨K, W, R, G⟩ ⟨p1, p2, p3, p4, p5, p6, p7, p8⟩
    dsimp only at p1 p2 p3 p4 p5 p6 p7 p8 ⊢
    subst p1
    subst p2
    refine al_o (k2 := 75) rfl (by decide) rfl rfl (Zr_s p3 (by decide)) (by unfold rle; decide +kernel) ?_
    intro J2
    refine wp_b4 (wp_mono (s_188 (Zr_s p3 (by decide))) ?_)
    rintro ⟨K2, W2, R2, G2⟩ ⟨q1, q2, q3, q4, q5, q6⟩
    dsimp only at q1 q2 q3 q4 q5 q6 ⊢
    subst q1
    subst q2
    have hF : ∀ s, s < 4 → ∀ k, k < 256 → V0 k = FV K2 s k := fun s hs k hk => ((q4 s hs).2.2 k hk).symm
    have hz : ∀ c, 41 < c → ¬ c = 76 → ¬ c = 1999 → K2 c = fun _ => 0 := fun c h1 h2 h3 => (q3 c h2).trans (p3 c h1 h3)
    have z1 : K2 1 = fun _ => 0 := by rw [q3 1 (by decide), p4 1 (Or.inl (by decide)), hI 1 (by decide)]
    have hST : ST K2 := by
      refine ⟨fun s hs => ⟨2, 1, WF_cong (hF s hs) V0_WF, CS_cong (hF s hs) (q3 _ (by omega)) (q3 _ (by omega)) (q3 _ (by omega)) (q3 _ (by omega)) (p8 s hs), (q4 s hs).1, (q4 s hs).2.1⟩, ⟨?_, Or.inl ?_⟩, fun e he => ⟨?_, ?_, ?_⟩, ⟨1, by decide, ?_, q5⟩, ⟨0, by decide, ?_, ?_, fun k hk => absurd hk (Nat.not_lt_zero _)⟩, ⟨0, by decide, ?_, ?_, fun k hk => absurd hk (Nat.not_lt_zero _)⟩⟩
      · rw [z1, hz 75 (by decide) (by decide) (by decide)]
      · rw [z1]
        rfl
      · rw [q3 4 (by decide), p7, q6 _ (by omega) (by omega)]
      · rw [q3 4 (by decide), p7]
        exact (by decide : (-1000 : Int32) ≤ 0)
      · rw [q3 4 (by decide), p7]
        exact (by decide : (0 : Int32) ≤ 1000)
      · rw [q3 2 (by decide)]
        exact p6
      · rw [q3 2 (by decide)]
        exact p5
      · rw [q6 _ (by decide) (by decide)]
        rfl
      · rw [z1]
        rfl
      · rw [hz 75 (by decide) (by decide) (by decide)]
        rfl
    rw [law_l hL hST rfl, wp_s]
  obtain ⟨r, e, hr⟩ := key
  rw [hG]
  exact e.trans (by rw [hr])
