/-! Out of whole's part 79t.edge, by wip/p46/extract.py. -/
/-- one edge, of corners up to hi -/
def eg1 (T : Nat → Nat) (n : Nat) (hi : Int32) (s : RS) : RS :=
  match rn T n (nI 0) hi s with
  | .inl e => .inl e
  | .inr (p1, f1, N1) => match rn T n (nI 0) hi (.inr (p1, f1, N1)) with
    | .inl e => .inl e
    | .inr (p2, f2, N2) => if N2 (f2 - 1) = N1 (f1 - 1) then .inl (fa 6 (p1 + 1)) else .inr (p2, f2, N2)
def egs (T : Nat → Nat) (n : Nat) (hi : Int32) (s : RS) : Nat → RS
  | 0 => s
  | i + 1 => eg1 T n hi (egs T n hi s i)
theorem egs_e {T : Nat → Nat} {n : Nat} {hi : Int32} {s : RS} {e : Int32} {i : Nat} (h : egs T n hi s i = .inl e) : ∀ m, egs T n hi s (i + m) = .inl e
  | 0 => h
  | m + 1 => by
    show eg1 T n hi (egs T n hi s (i + m)) = _
    rw [egs_e h m]
    rfl
theorem c_5e {I0 I : ai_I} {n f0 : Nat} {a b e : Int32} (h : CL I0 n f0 I (.inl e)) : wp (m_5 43 a b I) (fun J => CL I0 n f0 J (.inl e)) := by
  obtain ⟨he, p, f, N, p1, p2, p3, hC⟩ := h
  refine wp_mono (c_5 hC) ?_
  intro J hJ
  rw [if_neg he] at hJ
  exact CL_e he p1 p2 p3 hJ
theorem c_13 {I0 I : ai_I} {n f0 m : Nat} {L : ai_G} {T : Nat → Nat} {hi : Int32} {s : RS} (hm : m < 1000) (hT : TX I0 T n) (h : CL I0 n f0 I s) {a1 : Int32} (ha : a1 - nI 1 = hi) : wp (m_13 43 (nI m) a1 I (Rc 42) (Gc L)) (fun K => CL I0 n f0 K (egs T n hi s m)) := by
  have hn := hT.2.1
  unfold m_13
  refine wp_s1 (wp_lp (fun i s2 => s2.1 = nI i ∧ CL I0 n f0 s2.2 (egs T n hi s i)) 0 m (Nat.zero_le _) (by omega) ⟨rfl, h⟩ ?_ ?_)
  · rintro i ⟨a, K⟩ hi' ⟨g1, g2⟩
    dsimp only at g1 g2
    subst g1
    unfold m_13_b2
    dsimp only
    rw [if_neg (nI_ge hi' (by omega)), ha]
    show wp _ (lq (fun s2 : Int32 × ai_I => s2.1 = nI (i + 1) ∧ CL I0 n f0 s2.2 (eg1 T n hi (egs T n hi s i))) _)
    rcases CL_0 g2 with ⟨z, x, hx⟩ | ⟨z, e, he⟩
    · rw [if_pos z]
      unfold eg1
      refine wp_b2 (c_16' (lo := nI 0) (hi := hi) (T := T) hT g2 ?_)
      intro v1 K1 hK1 hv1
      dsimp only
      cases hs1 : rn T n (nI 0) hi (egs T n hi s i) with
      | inl e =>
        rw [hs1] at hK1
        obtain ⟨he, p, f, N, p1, p2, p3, hC⟩ := id hK1
        dsimp only
        rw [hC.2.2.1, i_add, o_b1_s]
        refine wp_b2 (c_16' (T := T) hT hK1 ?_)
        intro v2 K2 hK2 _
        dsimp only
        rw [rn_e] at hK2
        by_cases c : v2 = v1
        · rw [if_pos c]
          refine wp_b1 (wp_mono (c_5e hK2) ?_)
          intro K3 hK3
          rw [i_add, o_b1_s, wp_s, lq_l]
          exact ⟨rfl, hK3⟩
        · rw [if_neg c, i_add, o_b1_s, wp_s, lq_l]
          exact ⟨rfl, hK2⟩
      | inr y =>
        obtain ⟨p1, f1, N1⟩ := y
        rw [hs1] at hK1 hv1
        have hv1' := hv1 _ rfl
        obtain ⟨q1, q2, q3, hC⟩ := id hK1
        dsimp only
        rw [hC.2.2.1, i_add, o_b1_s]
        refine wp_b2 (c_16' (lo := nI 0) (hi := hi) (T := T) hT hK1 ?_)
        intro v2 K2 hK2 hv2
        dsimp only
        cases hs2 : rn T n (nI 0) hi (.inr (p1, f1, N1)) with
        | inl e =>
          rw [hs2] at hK2
          dsimp only
          by_cases c : v2 = v1
          · rw [if_pos c]
            refine wp_b1 (wp_mono (c_5e hK2) ?_)
            intro K3 hK3
            rw [i_add, o_b1_s, wp_s, lq_l]
            exact ⟨rfl, hK3⟩
          · rw [if_neg c, i_add, o_b1_s, wp_s, lq_l]
            exact ⟨rfl, hK2⟩
        | inr y2 =>
          obtain ⟨p2, f2, N2⟩ := y2
          rw [hs2] at hK2 hv2
          have hv2' := hv2 _ rfl
          obtain ⟨w1, w2, w3, hC2⟩ := id hK2
          dsimp only
          have hl1 : v1 = N1 (f1 - 1) := hv1'
          have hl2 : v2 = N2 (f2 - 1) := hv2'
          rw [hl1, hl2]
          by_cases c : N2 (f2 - 1) = N1 (f1 - 1)
          · rw [if_pos c, if_pos c]
            refine wp_b1 (wp_mono (c_5 hC2) ?_)
            intro K3 hK3
            rw [if_pos rfl] at hK3
            rw [i_add, o_b1_s, wp_s, lq_l]
            exact ⟨rfl, CL_e (fa_ne (by omega) (by decide) (by decide)) w1 w2 (by omega) hK3⟩
          · rw [if_neg c, if_neg c, i_add, o_b1_s, wp_s, lq_l]
            exact ⟨rfl, hK2⟩
    · rw [if_neg z, wp_s, lq_r]
      refine ⟨K, rfl, ?_⟩
      rw [show m = i + (m - i) by omega, egs_e he, ← he]
      exact g2
  · rintro ⟨a, K⟩ ⟨g1, g2⟩
    dsimp only at g1 g2
    subst g1
    unfold m_13_b2
    dsimp only
    rw [if_pos (Int32.le_refl _), wp_s, lq_r]
    exact ⟨K, rfl, g2⟩
theorem c_13e {I0 I : ai_I} {n f0 : Nat} {L : ai_G} {a b e : Int32} (h : CL I0 n f0 I (.inl e)) : wp (m_13 43 a b I (Rc 42) (Gc L)) (fun K => CL I0 n f0 K (.inl e)) := by
  have z : ¬ I 43 1 = 0 := by
    rcases CL_0 h with ⟨-, x, hx⟩ | ⟨z, -⟩
    · cases hx
    · exact z
  unfold m_13
  refine wp_s1 (wp_lp (fun i s2 => i = 0 ∧ s2.2 = I) 0 1 (Nat.zero_le _) (by omega) ⟨rfl, rfl⟩ ?_ ?_)
  · rintro i ⟨b, K⟩ hi ⟨g1, g2⟩
    dsimp only at g2
    subst g2
    unfold m_13_b2
    dsimp only
    rw [if_neg z]
    split
    · rw [wp_s, lq_r]
      exact ⟨_, rfl, h⟩
    · rw [wp_s, lq_r]
      exact ⟨_, rfl, h⟩
  · rintro ⟨b, K⟩ ⟨g1, g2⟩
    exact absurd g1 (by decide)
