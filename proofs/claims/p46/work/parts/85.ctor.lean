/-! Out of whole's part 85.ctor, by wip/p46/extract.py. -/
theorem wp_b4 {α α2 α3 α4 γ : Type} {x : Option (α × α2 × α3 × α4)} {f : α → α2 → α3 → α4 → Option γ} {Q : γ → Prop} (h : wp x (fun a => wp (f a.1 a.2.1 a.2.2.1 a.2.2.2) Q)) : wp (o_b4 x f) Q := by
  obtain ⟨a, rfl, h⟩ := h
  exact h
theorem zs {K : ai_I} {a j : Nat} {x : Int32} (h : K a j = x) : va_up K a (va_up (K a) j x) = K := by
  rw [up_self h, up_self rfl]
def fCls : List (Nat × Nat × Nat) := [(1, 14, 74), (1, 13, 73), (1, 12, 67), (67, 4, 72), (67, 3, 71), (67, 2, 70), (67, 1, 69), (67, 0, 68), (1, 11, 63), (63, 2, 66), (63, 1, 65), (63, 0, 64), (1, 10, 61), (61, 3, 62), (1, 9, 59), (59, 0, 60), (1, 8, 57), (57, 0, 58), (1, 7, 55), (55, 3, 56), (1, 6, 49), (49, 1, 54), (49, 0, 50), (50, 5, 53), (50, 4, 52), (50, 3, 51), (1, 5, 43), (43, 9, 48), (43, 7, 47), (43, 6, 46), (43, 5, 45), (43, 2, 44), (1, 3, 42), (1, 1, 22), (23, 3, 38), (38, 5, 41), (38, 4, 40), (38, 3, 39), (23, 2, 34), (34, 5, 37), (34, 4, 36), (34, 3, 35), (23, 1, 30), (30, 5, 33), (30, 4, 32), (30, 3, 31), (23, 0, 26), (26, 5, 29), (26, 4, 28), (26, 3, 27), (22, 2, 25), (22, 1, 24), (22, 0, 23), (1, 0, 2), (3, 3, 18), (18, 5, 21), (18, 4, 20), (18, 3, 19), (3, 2, 14), (14, 5, 17), (14, 4, 16), (14, 3, 15), (3, 1, 10), (10, 5, 13), (10, 4, 12), (10, 3, 11), (3, 0, 6), (6, 5, 9), (6, 4, 8), (6, 3, 7), (2, 2, 5), (2, 1, 4), (2, 0, 3)]
theorem c_136 {L : Nat} {I : ai_I} {J : ai_J} (hI : ∀ a, ¬ a = 1999 → I a = fun _ => 0) : wp (m_94 1 I J (rf []) (Gk L 1)) (fun q => q.2.2.1 = rf fCls ∧ q.2.2.2 = Gk L 74 ∧ Zr 41 q.1 ∧ (∀ c, c < 2 ∨ c = 1999 → q.1 c = I c) ∧ q.1 2 3 = nI 0 ∧ q.1 2 4 = nI 1 ∧ (q.1 4 = fun _ => 0) ∧ ∀ s, s < 4 → CS q.1 (6 + 4 * s) 2 1 V0) := by
  have hZ : Zr 1 I := fun a h1 h2 => hI a h2
  unfold m_94
  rw [nn_t (by decide), o_g_t]
  refine al_o (k2 := 2) rfl (by decide) rfl rfl (Zr_s hZ (by decide)) (by unfold rle; decide +kernel) ?_
  intro J2
  refine wp_b4 (wp_mono (c_95 (L := L) (k := 2) (Or.inl rfl) (Zr_s hZ (by decide)) (hI 2 (by decide)) (by unfold rle; decide +kernel)) ?_)
  rintro ⟨K2, W2, R2, G2⟩ ⟨p21, p22, p23, p24, p25, p26, p27, p28, p29⟩
  dsimp only at p21 p22 p23 p24 p25 p26 p27 p28 p29 ⊢
  subst p21
  subst p22
  replace hZ := p23
  refine st_r (by decide) (by decide) rfl ?_
  refine al_o (k2 := 22) rfl (by decide) rfl rfl (Zr_s hZ (by decide)) (by unfold rle; decide +kernel) ?_
  intro J22
  have z22 : K2 22 = fun _ => 0 := hZ 22 (by decide) (by decide)
  refine wp_b4 (wp_mono (c_95 (L := L) (k := 22) (Or.inr rfl) (Zr_s hZ (by decide)) z22 (by unfold rle; decide +kernel)) ?_)
  rintro ⟨K22, W22, R22, G22⟩ ⟨p221, p222, p223, p224, p225, p226, p227, p228, p229⟩
  dsimp only at p221 p222 p223 p224 p225 p226 p227 p228 p229 ⊢
  subst p221
  subst p222
  replace hZ := p223
  refine st_r (by decide) (by decide) rfl ?_
  have z1 : K22 1 = fun _ => 0 := by rw [p224 1 (Or.inl (by decide)), p24 1 (Or.inl (by decide)), hI 1 (by decide)]
  rw [zs (show K22 1 2 = nI 0 by rw [z1]; rfl), o_b1_s]
  refine al_i (k2 := 42) rfl (by decide) rfl rfl (Zr_s hZ (by decide)) ?_
  refine st_r (by decide) (by decide) rfl ?_
  rw [zs (show K22 1 4 = nI 0 by rw [z1]; rfl), o_b1_s]
  refine al_o (k2 := 43) rfl (by decide) rfl rfl (Zr_s hZ (by decide)) (by unfold rle; decide +kernel) ?_
  intro J43
  refine wp_b3 ?_
  unfold m_0
  rw [nn_t (by decide), o_g_t]
  refine al_i (k2 := 44) rfl (by decide) rfl rfl (Zr_s hZ (by decide)) ?_
  refine st_r (by decide) (by decide) rfl ?_
  refine al_i (k2 := 45) rfl (by decide) rfl rfl (Zr_s hZ (by decide)) ?_
  refine st_r (by decide) (by decide) rfl ?_
  refine al_i (k2 := 46) rfl (by decide) rfl rfl (Zr_s hZ (by decide)) ?_
  refine st_r (by decide) (by decide) rfl ?_
  refine al_i (k2 := 47) rfl (by decide) rfl rfl (Zr_s hZ (by decide)) ?_
  refine st_r (by decide) (by decide) rfl ?_
  refine al_i (k2 := 48) rfl (by decide) rfl rfl (Zr_s hZ (by decide)) ?_
  refine st_r (by decide) (by decide) rfl ?_
  rw [wp_s]
  dsimp only
  refine st_r (by decide) (by decide) rfl ?_
  refine al_o (k2 := 49) rfl (by decide) rfl rfl (Zr_s hZ (by decide)) (by unfold rle; decide +kernel) ?_
  intro J49
  refine wp_b4 ?_
  unfold m_26
  rw [nn_t (by decide), o_g_t]
  refine al_o (k2 := 50) rfl (by decide) rfl rfl (Zr_s hZ (by decide)) (by unfold rle; decide +kernel) ?_
  intro J50
  refine wp_b3 (c_111 (by decide) (by decide) ⟨rfl, rfl, rfl, rfl, rfl, rfl, rfl⟩ (Zr_s hZ (by decide)) ?_)
  dsimp only
  refine st_r (by decide) (by decide) rfl ?_
  refine al_i (k2 := 54) rfl (by decide) rfl rfl (Zr_s hZ (by decide)) ?_
  refine st_r (by decide) (by decide) rfl ?_
  rw [wp_s]
  dsimp only
  refine st_r (by decide) (by decide) rfl ?_
  refine al_o (k2 := 55) rfl (by decide) rfl rfl (Zr_s hZ (by decide)) (by unfold rle; decide +kernel) ?_
  intro J55
  refine wp_b3 ?_
  unfold m_20
  rw [nn_t (by decide), o_g_t]
  refine al_i (k2 := 56) rfl (by decide) rfl rfl (Zr_s hZ (by decide)) ?_
  refine st_r (by decide) (by decide) rfl ?_
  rw [wp_s]
  dsimp only
  refine st_r (by decide) (by decide) rfl ?_
  refine al_o (k2 := 57) rfl (by decide) rfl rfl (Zr_s hZ (by decide)) (by unfold rle; decide +kernel) ?_
  intro J57
  refine wp_b3 ?_
  unfold m_69
  rw [nn_t (by decide), o_g_t]
  refine al_i (k2 := 58) rfl (by decide) rfl rfl (Zr_s hZ (by decide)) ?_
  refine st_r (by decide) (by decide) rfl ?_
  rw [wp_s]
  dsimp only
  refine st_r (by decide) (by decide) rfl ?_
  refine al_o (k2 := 59) rfl (by decide) rfl rfl (Zr_s hZ (by decide)) (by unfold rle; decide +kernel) ?_
  intro J59
  refine wp_b3 ?_
  unfold m_56
  rw [nn_t (by decide), o_g_t]
  refine al_i (k2 := 60) rfl (by decide) rfl rfl (Zr_s hZ (by decide)) ?_
  refine st_r (by decide) (by decide) rfl ?_
  rw [wp_s]
  dsimp only
  refine st_r (by decide) (by decide) rfl ?_
  refine al_o (k2 := 61) rfl (by decide) rfl rfl (Zr_s hZ (by decide)) (by unfold rle; decide +kernel) ?_
  intro J61
  refine wp_b3 ?_
  unfold m_19
  rw [nn_t (by decide), o_g_t]
  refine al_i (k2 := 62) rfl (by decide) rfl rfl (Zr_s hZ (by decide)) ?_
  refine st_r (by decide) (by decide) rfl ?_
  rw [wp_s]
  dsimp only
  refine st_r (by decide) (by decide) rfl ?_
  refine al_o (k2 := 63) rfl (by decide) rfl rfl (Zr_s hZ (by decide)) (by unfold rle; decide +kernel) ?_
  intro J63
  refine wp_b3 ?_
  unfold m_93
  rw [nn_t (by decide), o_g_t]
  refine al_i (k2 := 64) rfl (by decide) rfl rfl (Zr_s hZ (by decide)) ?_
  refine st_r (by decide) (by decide) rfl ?_
  refine al_i (k2 := 65) rfl (by decide) rfl rfl (Zr_s hZ (by decide)) ?_
  refine st_r (by decide) (by decide) rfl ?_
  refine al_i (k2 := 66) rfl (by decide) rfl rfl (Zr_s hZ (by decide)) ?_
  refine st_r (by decide) (by decide) rfl ?_
  rw [wp_s]
  dsimp only
  refine st_r (by decide) (by decide) rfl ?_
  refine al_o (k2 := 67) rfl (by decide) rfl rfl (Zr_s hZ (by decide)) (by unfold rle; decide +kernel) ?_
  intro J67
  refine wp_b4 ?_
  unfold m_47
  rw [nn_t (by decide), o_g_t]
  refine al_i (k2 := 68) rfl (by decide) rfl rfl (Zr_s hZ (by decide)) ?_
  refine st_r (by decide) (by decide) rfl ?_
  refine al_i (k2 := 69) rfl (by decide) rfl rfl (Zr_s hZ (by decide)) ?_
  refine st_r (by decide) (by decide) rfl ?_
  refine al_i (k2 := 70) rfl (by decide) rfl rfl (Zr_s hZ (by decide)) ?_
  refine st_r (by decide) (by decide) rfl ?_
  refine al_j (k2 := 71) rfl (by decide) rfl rfl ?_
  intro J71
  refine st_r (by decide) (by decide) rfl ?_
  refine al_j (k2 := 72) rfl (by decide) rfl rfl ?_
  intro J72
  refine st_r (by decide) (by decide) rfl ?_
  rw [wp_s]
  dsimp only
  refine st_r (by decide) (by decide) rfl ?_
  refine al_i (k2 := 73) rfl (by decide) rfl rfl (Zr_s hZ (by decide)) ?_
  refine st_r (by decide) (by decide) rfl ?_
  refine al_i (k2 := 74) rfl (by decide) rfl rfl (Zr_s hZ (by decide)) ?_
  refine st_r (by decide) (by decide) rfl ?_
  rw [wp_s]
  exact ⟨rfl, rfl, hZ, fun c hc => by dsimp only; rw [p224 c (by omega), p24 c (by omega)], by dsimp only; rw [p224 2 (Or.inl (by decide))]; exact p25, by dsimp only; rw [p224 2 (Or.inl (by decide))]; exact p26, by dsimp only; rw [p224 4 (Or.inl (by decide))]; exact p27, fun s hs => CS_cong (fun _ _ => rfl) (p224 _ (by omega)) (p224 _ (by omega)) (p224 _ (by omega)) (p224 _ (by omega)) (p29 s hs)⟩
theorem rf_out {a j : Nat} : ∀ {l : List (Nat × Nat × Nat)}, (∀ e ∈ l, ¬ (e.1 = a ∧ e.2.1 = j)) → rf l a j = 0
  | [], _ => rfl
  | (b, i, x) :: l, h => by
    show (if a = b ∧ j = i then x else rf l a j) = 0
    rw [if_neg (fun hh => h (b, i, x) List.mem_cons_self ⟨hh.1.symm, hh.2.symm⟩), rf_out (fun e he => h e (List.mem_cons_of_mem _ he))]
theorem getD_hi {α : Type} {l : List α} {a : Nat} {d : α} (h : l.length ≤ a) : l.getD a d = d := by
  rw [List.getD_eq_getElem?_getD, List.getElem?_eq_none h]
  rfl
