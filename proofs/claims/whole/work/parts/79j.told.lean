/-! Makers: told. -/
def tdr (S : Nat → Nat) (Y : Nat → Int32) : Nat → Nat → Int32
  | 0 => fun _ => NO
  | i + 1 => va_up (tdr S Y i) (S i) (mx (tdr S Y i (S i)) (Y i))
theorem tdr_no {S : Nat → Nat} {Y : Nat → Int32} {j : Nat} : ∀ i, (∀ x, x < i → ¬ S x = j) → tdr S Y i j = NO
  | 0, _ => rfl
  | i + 1, h => (up_ne (fun e => h i (by omega) e.symm)).trans (tdr_no i (fun x hx => h x (by omega)))
theorem c_48 {I J : ai_I} {t L k n r q : Nat} {S : Nat → Nat} {Y num : Nat → Int32} (hq : q < 1000) (hR : RD I t L k num (3 + 2 * q)) (hR3 : ∀ J : ai_I, (∀ c, ¬ c = 50 → ¬ c = 51 → ¬ c = 54 → J c = I c) → m_3 43 (nI k) J (Rc t) (Gc L) = some (nI (3 + 2 * q))) (hc : ∀ i, i < q → S i < 256 ∧ num (3 + 2 * i) = nI (S i) ∧ num (3 + 2 * i + 1) = Y i) (h : MC I J n r (fun _ => NO)) : wp (m_48 49 43 (nI k) J (Rc t) (Gc L)) (fun K => MC I K n r (tdr S Y q)) := by
  unfold m_48
  refine wp_s1 (wp_lp (fun i s => s.1 = nI (3 + 2 * i) ∧ MC I s.2 n r (tdr S Y i)) 0 q (Nat.zero_le _) (by omega) ⟨rfl, h⟩ ?_ ?_)
  · rintro i ⟨s, M⟩ hi ⟨g1, g2⟩
    dsimp only at g1 g2
    subst g1
    have fr : ∀ c, ¬ c = 50 → ¬ c = 51 → ¬ c = 54 → M c = I c := fun c c1 c2 _ => g2.1 c c1 c2
    obtain ⟨s1, s2, s3⟩ := hc i hi
    unfold m_48_b2
    dsimp only
    rw [k_43, o_g_t, hR3 M fr, o_b1_s, i_add, if_neg (nI_ge (show 3 + 2 * i + 1 < 3 + 2 * q by omega) (by omega)), hR M fr _ (by omega), o_b1_s, hR M fr _ (by omega), o_b1_s, r_49_0, k_50, o_g_t, s2, s3]
    refine wp_b1 (wp_mono (c_113 (t := t) (L := L) (k := S i) (x := Y i) g2 s1) ?_)
    intro K hK
    rw [i_add, o_b1_s, wp_s, lq_l]
    exact ⟨rfl, hK⟩
  · rintro ⟨s, M⟩ ⟨g1, g2⟩
    dsimp only at g1 g2
    subst g1
    have fr : ∀ c, ¬ c = 50 → ¬ c = 51 → ¬ c = 54 → M c = I c := fun c c1 c2 _ => g2.1 c c1 c2
    unfold m_48_b2
    dsimp only
    rw [k_43, o_g_t, hR3 M fr, o_b1_s, i_add, if_pos (nI_le (show 3 + 2 * q ≤ 3 + 2 * q + 1 by omega) (by omega)), wp_s, lq_r]
    exact ⟨M, rfl, g2⟩
theorem s_228 {I J : ai_I} {t L at' q : Nat} {n r : Int32} {S : Nat → Nat} {Y : Nat → Int32} (ha : at' + 2 * q ≤ 120) (hc : ∀ i, i < q → S i < 256 ∧ I 80 (at' + 2 * i) = nI (S i) ∧ I 80 (at' + 2 * i + 1) = Y i) (hd : ∀ i j, i < j → j < q → ¬ S i = S j) (h1 : ∀ c, ¬ c = 75 → ¬ c = 81 → ¬ c = 82 → J c = I c) (h2 : ∀ j, ¬ j = 18 → ¬ j = 19 → J 75 j = I 75 j) : wp (m_228 75 n r (nI at') (nI (at' + 2 * q)) J (Rc t) (Gc L)) (fun K => MR I K n r (tdr S Y q)) := by
  unfold m_228
  refine wp_b1 (wp_mono (s_219 (n := n) (r := r) h1 h2) ?_)
  rintro M0 ⟨hM0, -⟩
  refine wp_s1 (wp_lp (fun i s => s.1 = nI (at' + 2 * i) ∧ MR I s.2 n r (tdr S Y i)) 0 q (Nat.zero_le _) (by omega) ⟨rfl, hM0⟩ ?_ ?_)
  · rintro i ⟨s, M⟩ hi ⟨g1, g2⟩
    dsimp only at g1 g2
    subst g1
    obtain ⟨s1, s2, s3⟩ := hc i hi
    have e80 : M 80 = I 80 := g2.1 80 (by decide) (by decide) (by decide)
    unfold m_228_b9
    dsimp only
    rw [if_neg (nI_ge (show at' + 2 * i < at' + 2 * q by omega) (by omega)), r_75_15, r_75_16, g_80 (by omega), o_g_t, i_add, g_80 (by omega), o_g_t, i_cl (by omega), i_cl (by omega), e80, s2, s3, g_81 s1, o_g_t, i_cl (by omega), o_b1_s, i_add, o_b1_s, wp_s, lq_l]
    refine ⟨rfl, ?_⟩
    have hno : tdr S Y i (S i) = NO := tdr_no i (fun x hx => hd x i hx hi)
    show MR I _ n r (va_up (tdr S Y i) (S i) (mx (tdr S Y i (S i)) (Y i)))
    rw [hno, mx_no]
    exact MR_up g2
  · rintro ⟨s, M⟩ ⟨g1, g2⟩
    dsimp only at g1 g2
    subst g1
    unfold m_228_b9
    dsimp only
    rw [if_pos (Int32.le_refl _), wp_s, lq_r]
    exact ⟨M, rfl, g2⟩
