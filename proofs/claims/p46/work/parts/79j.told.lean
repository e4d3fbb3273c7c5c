/-! Out of whole's part 79j.told, by wip/p46/extract.py. -/
def tdr (S : Nat → Nat) (Y : Nat → Int32) : Nat → Nat → Int32
  | 0 => fun _ => NO
  | i + 1 => va_up (tdr S Y i) (S i) (mx (tdr S Y i (S i)) (Y i))
theorem tdr_no {S : Nat → Nat} {Y : Nat → Int32} {j : Nat} : ∀ i, (∀ x, x < i → ¬ S x = j) → tdr S Y i j = NO
  | 0, _ => rfl
  | i + 1, h => (up_ne (fun e => h i (by omega) e.symm)).trans (tdr_no i (fun x hx => h x (by omega)))
theorem c_48 {I J : ai_I} {t k n r q : Nat} {L : ai_G} {S : Nat → Nat} {Y num : Nat → Int32} (hq : q < 1000) (hR : RD I t L k num (3 + 2 * q)) (hR3 : ∀ J : ai_I, (∀ c, ¬ c = 50 → ¬ c = 51 → ¬ c = 54 → J c = I c) → m_3 43 (nI k) J (Rc t) (Gc L) = some (nI (3 + 2 * q))) (hc : ∀ i, i < q → S i < 256 ∧ num (3 + 2 * i) = nI (S i) ∧ num (3 + 2 * i + 1) = Y i) (h : MC I J n r (fun _ => NO)) : wp (m_37 49 43 (nI k) J (Rc t) (Gc L)) (fun K => MC I K n r (tdr S Y q)) := by
  unfold m_37
  refine wp_s1 (wp_lp (fun i s => s.1 = nI (3 + 2 * i) ∧ MC I s.2 n r (tdr S Y i)) 0 q (Nat.zero_le _) (by omega) ⟨rfl, h⟩ ?_ ?_)
  · rintro i ⟨s, M⟩ hi ⟨g1, g2⟩
    dsimp only at g1 g2
    subst g1
    have fr : ∀ c, ¬ c = 50 → ¬ c = 51 → ¬ c = 54 → M c = I c := fun c c1 c2 _ => g2.1 c c1 c2
    obtain ⟨s1, s2, s3⟩ := hc i hi
    unfold m_37_b2
    dsimp only
    rw [k_43, o_g_t, hR3 M fr, o_b1_s, i_add, if_neg (nI_ge (show 3 + 2 * i + 1 < 3 + 2 * q by omega) (by omega)), hR M fr _ (by omega), o_b1_s, hR M fr _ (by omega), o_b1_s, r_49_0, k_50, o_g_t, s2, s3]
    refine wp_b1 (wp_mono (c_113 (t := t) (L := L) (k := S i) (x := Y i) g2 s1) ?_)
    intro K hK
    rw [i_add, o_b1_s, wp_s, lq_l]
    exact ⟨rfl, hK⟩
  · rintro ⟨s, M⟩ ⟨g1, g2⟩
    dsimp only at g1 g2
    subst g1
    have fr : ∀ c, ¬ c = 50 → ¬ c = 51 → ¬ c = 54 → M c = I c := fun c c1 c2 _ => g2.1 c c1 c2
    unfold m_37_b2
    dsimp only
    rw [k_43, o_g_t, hR3 M fr, o_b1_s, i_add, if_pos (nI_le (show 3 + 2 * q ≤ 3 + 2 * q + 1 by omega) (by omega)), wp_s, lq_r]
    exact ⟨M, rfl, g2⟩
