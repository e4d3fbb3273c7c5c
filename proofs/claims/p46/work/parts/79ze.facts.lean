/-! Out of whole's part 79ze.facts, by wip/p46/extract.py. -/
def hd3 (c : Nat → Int32) (a b : Nat) : Prop := (∃ s, s ≤ 3 ∧ c 0 = nI s) ∧ c 1 = nI a ∧ c 2 = nI b
def CFk (kd : Nat) (c : Nat → Int32) (cnt : Nat) : Prop :=
  if kd = 0 then 2 ≤ cnt ∧ (∃ e, e ≤ 7 ∧ c 0 = nI e) ∧ -1000 ≤ c 1 ∧ c 1 ≤ nI 1000
  else if 4 < kd then 2 ≤ cnt ∧ (∃ s, s ≤ 3 ∧ c 0 = nI s) ∧ (∃ s, s ≤ 3 ∧ c 1 = nI s) ∧ (kd = 6 ∨ kd = 7 → 3 ≤ cnt ∧ ∃ e, e ≤ 7 ∧ c 2 = nI e) ∧ (kd = 9 ∨ kd = 13 → 3 ≤ cnt ∧ ∃ s, s ≤ 3 ∧ c 2 = nI s)
  else if kd = 3 then ∃ a b, hd3 c a b ∧ 2 ≤ a ∧ a ≤ 8 ∧ 2 ≤ b ∧ b ≤ 6 ∧ cnt = 3 + 2 * a ∧ ∀ i, i < 2 * a → ∃ x, x < b ∧ c (3 + i) = nI x
  else ∃ a b, hd3 c a b ∧ 2 ≤ a ∧ a ≤ 8 ∧ 1 ≤ b ∧ b < a ∧ (kd = 1 → cnt = 3) ∧ (kd = 2 → cnt = 3 + a * b ∧ ∀ i, i < a * b → -999 ≤ c (3 + i) ∧ c (3 + i) ≤ nI 999) ∧ (kd = 4 → ∃ q, cnt = 3 + 2 * q ∧ (∀ i, i < q → (∃ x, x < 2 ^ a ∧ pc x = b ∧ c (3 + 2 * i) = nI x) ∧ -1000000 ≤ c (3 + 2 * i + 1) ∧ c (3 + 2 * i + 1) ≤ nI 1000000) ∧ ∀ i j, i < j → j < q → ¬ c (3 + 2 * i) = c (3 + 2 * j))
theorem hd3_cong {c d : Nat → Int32} {a b : Nat} (h : hd3 c a b) (e : ∀ i, i < 3 → d i = c i) : hd3 d a b := by
  obtain ⟨⟨s, s1, s2⟩, h1, h2⟩ := h
  exact ⟨⟨s, s1, by rw [e 0 (by decide)]; exact s2⟩, by rw [e 1 (by decide)]; exact h1, by rw [e 2 (by decide)]; exact h2⟩
theorem CFk_cong {kd cnt : Nat} {c d : Nat → Int32} (h : CFk kd c cnt) (e : ∀ i, i < cnt → d i = c i) : CFk kd d cnt := by
  unfold CFk at h ⊢
  by_cases c0 : kd = 0
  · rw [if_pos c0] at h ⊢
    obtain ⟨h1, ⟨x, x1, x2⟩, h3, h4⟩ := h
    exact ⟨h1, ⟨x, x1, by rw [e 0 (by omega)]; exact x2⟩, by rw [e 1 (by omega)]; exact h3, by rw [e 1 (by omega)]; exact h4⟩
  · rw [if_neg c0] at h ⊢
    by_cases c4 : 4 < kd
    · rw [if_pos c4] at h ⊢
      obtain ⟨h1, ⟨x, x1, x2⟩, ⟨y, y1, y2⟩, h4, h5⟩ := h
      refine ⟨h1, ⟨x, x1, by rw [e 0 (by omega)]; exact x2⟩, ⟨y, y1, by rw [e 1 (by omega)]; exact y2⟩, fun hk => ?_, fun hk => ?_⟩
      · obtain ⟨g1, z, z1, z2⟩ := h4 hk
        exact ⟨g1, z, z1, by rw [e 2 (by omega)]; exact z2⟩
      · obtain ⟨g1, z, z1, z2⟩ := h5 hk
        exact ⟨g1, z, z1, by rw [e 2 (by omega)]; exact z2⟩
    · rw [if_neg c4] at h ⊢
      by_cases c3 : kd = 3
      · rw [if_pos c3] at h ⊢
        obtain ⟨a, b, h1, h2, h3, h4, h5, h6, h7⟩ := h
        refine ⟨a, b, hd3_cong h1 (fun i hi => e i (by omega)), h2, h3, h4, h5, h6, fun i hi => ?_⟩
        rw [e _ (by omega)]
        exact h7 i hi
      · rw [if_neg c3] at h ⊢
        have k4 : ¬ kd = 1 → ¬ kd = 2 → kd = 4 := fun k1 k2 => by omega
        obtain ⟨a, b, h1, h2, h3, h4, h5, h6, h7, h8⟩ := h
        have hc : 3 ≤ cnt := by
          by_cases k1 : kd = 1
          · rw [h6 k1]
            omega
          · by_cases k2 : kd = 2
            · rw [(h7 k2).1]
              omega
            · obtain ⟨q, q1, _⟩ := h8 (k4 k1 k2)
              omega
        refine ⟨a, b, hd3_cong h1 (fun i hi => e i (by omega)), h2, h3, h4, h5, h6, fun k2 => ?_, fun k4 => ?_⟩
        · obtain ⟨g1, g2⟩ := h7 k2
          refine ⟨g1, fun i hi => ?_⟩
          rw [e _ (by omega)]
          exact g2 i hi
        · obtain ⟨q, q1, q2, q3⟩ := h8 k4
          refine ⟨q, q1, fun i hi => ?_, fun i j hij hj => ?_⟩
          · rw [e _ (by omega), e _ (by omega)]
            exact q2 i hi
          · rw [e _ (by omega), e _ (by omega)]
            exact q3 i j hij hj
theorem rn_i {T : Nat → Nat} {n p f : Nat} {lo hi : Int32} {N : Nat → Int32} {x : MT2} (h : rn T n lo hi (.inr (p, f, N)) = .inr x) : ∃ v q, x = (q, f + 1, va_up N f v) ∧ lo ≤ v ∧ v ≤ hi := by
  obtain ⟨p', f', N', v, q, h1, h2, h3, h4, -⟩ := rn_s h
  cases h1
  exact ⟨v, q, h2, h3, h4⟩
theorem wt_s {T : Nat → Nat} {n p f : Nat} {N : Nat → Int32} : ∀ m x, wt T n (.inr (p, f, N)) m = .inr x → ∃ q N2, x = (q, f + m, N2) ∧ (∀ j, j < f → N2 j = N j) ∧ ∀ i, i < m → -999 ≤ N2 (f + i) ∧ N2 (f + i) ≤ nI 999
  | 0, x, h => by
    cases h
    exact ⟨p, N, rfl, fun _ _ => rfl, fun i hi => absurd hi (Nat.not_lt_zero _)⟩
  | m + 1, x, h => by
    have h' : rn T n (-999) (nI 999) (wt T n (.inr (p, f, N)) m) = .inr x := h
    cases hs : wt T n (.inr (p, f, N)) m with
    | inl e => rw [hs] at h'; cases h'
    | inr y =>
      obtain ⟨q, N2, rfl, h2, h3⟩ := wt_s m y hs
      rw [hs] at h'
      obtain ⟨v, q', rfl, l, u⟩ := rn_i h'
      refine ⟨q', _, rfl, fun j hj => by rw [up_ne (by omega)]; exact h2 j hj, fun i hi => ?_⟩
      by_cases c : i = m
      · rw [c, up_eq]
        exact ⟨l, u⟩
      · rw [up_ne (by omega)]
        exact h3 i (by omega)
theorem eg1_s {T : Nat → Nat} {n p f b : Nat} {N : Nat → Int32} {x : MT2} (hb : b < 100) (h : eg1 T n (nI b) (.inr (p, f, N)) = .inr x) : ∃ q u v, x = (q, f + 2, va_up (va_up N f (nI u)) (f + 1) (nI v)) ∧ u ≤ b ∧ v ≤ b := by
  unfold eg1 at h
  cases e1 : rn T n (nI 0) (nI b) (.inr (p, f, N)) with
  | inl e => rw [e1] at h; cases h
  | inr y =>
    obtain ⟨v1, q1, rfl, l1, u1⟩ := rn_i e1
    obtain ⟨k1, -, k2, rfl⟩ := in_nI (by decide) (by omega) l1 u1
    rw [e1] at h
    dsimp only at h
    cases e2 : rn T n (nI 0) (nI b) (.inr (q1, f + 1, va_up N f (nI k1))) with
    | inl e => rw [e2] at h; cases h
    | inr y =>
      obtain ⟨v2, q2, rfl, l2, u2⟩ := rn_i e2
      obtain ⟨k3, -, k4, rfl⟩ := in_nI (by decide) (by omega) l2 u2
      rw [e2] at h
      dsimp only at h
      split at h
      · cases h
      · cases h
        exact ⟨q2, k1, k3, rfl, k2, k4⟩
theorem egs_s {T : Nat → Nat} {n p f b : Nat} {N : Nat → Int32} (hb : b < 100) : ∀ m x, egs T n (nI b) (.inr (p, f, N)) m = .inr x → ∃ q N2, x = (q, f + 2 * m, N2) ∧ (∀ j, j < f → N2 j = N j) ∧ ∀ i, i < 2 * m → ∃ u, u ≤ b ∧ N2 (f + i) = nI u
  | 0, x, h => by
    cases h
    exact ⟨p, N, rfl, fun _ _ => rfl, fun i hi => absurd hi (Nat.not_lt_zero _)⟩
  | m + 1, x, h => by
    have h' : eg1 T n (nI b) (egs T n (nI b) (.inr (p, f, N)) m) = .inr x := h
    cases hs : egs T n (nI b) (.inr (p, f, N)) m with
    | inl e => rw [hs] at h'; cases h'
    | inr y =>
      obtain ⟨q, N2, rfl, h2, h3⟩ := egs_s hb m y hs
      rw [hs] at h'
      obtain ⟨q', u, v, rfl, hu, hv⟩ := eg1_s hb h'
      refine ⟨q', _, by rw [show f + 2 * (m + 1) = f + 2 * m + 2 by omega], fun j hj => by rw [up_ne (by omega), up_ne (by omega)]; exact h2 j hj, fun i hi => ?_⟩
      by_cases c : i = 2 * m + 1
      · rw [c, show f + (2 * m + 1) = f + 2 * m + 1 by omega, up_eq]
        exact ⟨v, hv, rfl⟩
      · rw [up_ne (by omega)]
        by_cases c2 : i = 2 * m
        · rw [c2, up_eq]
          exact ⟨u, hu, rfl⟩
        · rw [up_ne (by omega)]
          exact h3 i (by omega)
theorem ssi_s {T : Nat → Nat} {n p fs a b : Nat} {N : Nat → Int32} : ∀ i x, ssi T n a b fs (.inr (p, fs, N)) i = .inr x → ∃ q m N2, x = (q, fs + 2 * m, N2) ∧ (∀ j, j < fs → N2 j = N j) ∧ (∀ i, i < m → (∃ x, x < 2 ^ a ∧ pc x = b ∧ N2 (fs + 2 * i) = nI x) ∧ -1000000 ≤ N2 (fs + 2 * i + 1) ∧ N2 (fs + 2 * i + 1) ≤ nI 1000000) ∧ ∀ i j, i < j → j < m → ¬ N2 (fs + 2 * i) = N2 (fs + 2 * j)
  | 0, x, h => by
    cases h
    exact ⟨p, 0, N, rfl, fun _ _ => rfl, fun i hi => absurd hi (Nat.not_lt_zero _), fun i j _ hj => absurd hj (Nat.not_lt_zero _)⟩
  | i + 1, x, h => by
    have h' : (if i = 0 ∨ gos T n (ssi T n a b fs (.inr (p, fs, N)) i) = true then sst T n a b fs (ssi T n a b fs (.inr (p, fs, N)) i) else ssi T n a b fs (.inr (p, fs, N)) i) = .inr x := h
    split at h'
    · cases hs : ssi T n a b fs (.inr (p, fs, N)) i with
      | inl e => rw [hs] at h'; cases h'
      | inr y =>
        obtain ⟨q, m, N2, rfl, h2, h3, h4⟩ := ssi_s i y hs
        rw [hs] at h'
        cases e1 : rn T n (nI 0) (nI 255) (.inr (q, fs + 2 * m, N2)) with
        | inl e => rw [sst_e e1] at h'; cases h'
        | inr y =>
          obtain ⟨v1, q1, rfl, l1, u1⟩ := rn_i e1
          rw [sst_s e1] at h'
          by_cases ok : okS a b fs (fs + 2 * m + 1) (va_up N2 (fs + 2 * m) v1)
          · rw [cif_t ok] at h'
            obtain ⟨v2, q2, rfl, l2, u2⟩ := rn_i h'
            obtain ⟨k, k1, k2, k3, k4, k5⟩ := ok
            rw [Nat.add_sub_cancel, up_eq] at k2
            subst k2
            refine ⟨q2, m + 1, _, by rw [show fs + 2 * (m + 1) = fs + 2 * m + 1 + 1 by omega], fun j hj => by rw [up_ne (by omega), up_ne (by omega)]; exact h2 j hj, fun j hj => ?_, fun j1 j2 h12 hj2 => ?_⟩
            · by_cases c : j = m
              · rw [c, up_eq, up_ne (by omega), up_eq]
                exact ⟨⟨k, k4, k3, rfl⟩, l2, u2⟩
              · rw [up_ne (by omega), up_ne (by omega), up_ne (by omega), up_ne (by omega)]
                exact h3 j (by omega)
            · rw [up_ne (show ¬ fs + 2 * j1 = fs + 2 * m + 1 by omega), up_ne (show ¬ fs + 2 * j1 = fs + 2 * m by omega), up_ne (show ¬ fs + 2 * j2 = fs + 2 * m + 1 by omega)]
              by_cases c : j2 = m
              · rw [c, up_eq]
                have := k5 j1 (by omega)
                rw [up_ne (by omega)] at this
                exact this
              · rw [up_ne (by omega)]
                exact h4 j1 j2 h12 (by omega)
          · rw [cif_f ok] at h'
            cases h'
    · exact ssi_s i x h'
