/-! Out of whole's part 79zf.facts, by wip/p46/extract.py. -/
theorem dd_s {T : Nat → Nat} {n p f : Nat} {N : Nat → Int32} {x : MT2} (h : dd T n (.inr (p, f, N)) = .inr x) : ∃ q u v, x = (q, f + 2, va_up (va_up N f (nI u)) (f + 1) (nI v)) ∧ u ≤ 3 ∧ v ≤ 3 := by
  unfold dd at h
  cases e1 : rn T n (nI 0) (nI 3) (.inr (p, f, N)) with
  | inl e => rw [e1] at h; cases h
  | inr y =>
    rw [e1] at h
    obtain ⟨v1, q1, rfl, l1, u1⟩ := rn_i e1
    obtain ⟨k1, -, k2, rfl⟩ := in_nI (by decide) (by decide) l1 u1
    obtain ⟨v2, q2, rfl, l2, u2⟩ := rn_i h
    obtain ⟨k3, -, k4, rfl⟩ := in_nI (by decide) (by decide) l2 u2
    exact ⟨q2, k1, k3, rfl, k2, k4⟩
/-- of one clause -/
theorem clp_s {T : Nat → Nat} {n p f q f1 : Nat} {N N1 : Nat → Int32} (h : clp T n p f N = .inr (q, f1, N1)) : kdw T p (wend T n p) < 14 ∧ f ≤ f1 ∧ (∀ j, j < f → N1 j = N j) ∧ CFk (kdw T p (wend T n p)) (fun i => N1 (f + i)) (f1 - f) := by
  unfold clp at h
  generalize wend T n p = w at h ⊢
  generalize kdw T p w = kd at h ⊢
  by_cases hk : kd < 14
  · rw [if_pos hk] at h
    refine ⟨hk, ?_⟩
    unfold CFk
    by_cases c0 : kd = 0
    · subst c0
      rw [if_pos rfl]
      have hh : hdp T n 0 (.inr (w, f, N)) = rn T n (-1000) (nI 1000) (rn T n (nI 0) (nI 7) (.inr (w, f, N))) := rfl
      have hb : ∀ y, bdp T n 0 f y = y := fun y => by
        cases y with
        | inl e => rfl
        | inr y => rfl
      rw [hb, hh] at h
      cases e1 : rn T n (nI 0) (nI 7) (.inr (w, f, N)) with
      | inl e => rw [e1] at h; cases h
      | inr y =>
        rw [e1] at h
        obtain ⟨v1, q1, rfl, l1, u1⟩ := rn_i e1
        obtain ⟨k1, -, k2, rfl⟩ := in_nI (by decide) (by decide) l1 u1
        obtain ⟨v2, q2, h2, l2, u2⟩ := rn_i h
        cases h2
        refine ⟨by omega, fun j hj => by rw [up_ne (by omega), up_ne (by omega)], by omega, ⟨k1, k2, ?_⟩, ?_⟩
        · dsimp only
          rw [up_ne (by omega), Nat.add_zero, up_eq]
        · dsimp only
          rw [up_eq]
          exact ⟨l2, u2⟩
    · rw [if_neg c0]
      by_cases c4 : 4 < kd
      · rw [if_pos c4]
        have hb : ∀ y, bdp T n kd f y = y := fun y => by
          cases y with
          | inl e => rfl
          | inr y =>
            unfold bdp
            dsimp only
            rw [if_neg (by omega), if_neg (by omega), if_neg (by omega)]
        rw [hb] at h
        unfold hdp at h
        rw [if_neg c0, if_pos c4] at h
        have third : ∀ hi, hi ≤ 7 → rn T n (nI 0) (nI hi) (dd T n (.inr (w, f, N))) = .inr (q, f1, N1) → ∃ q' u v z, (q, f1, N1) = (q', f + 3, va_up (va_up (va_up N f (nI u)) (f + 1) (nI v)) (f + 2) (nI z)) ∧ u ≤ 3 ∧ v ≤ 3 ∧ z ≤ hi := fun hi hhi hr => by
          cases e1 : dd T n (.inr (w, f, N)) with
          | inl e => rw [e1] at hr; cases hr
          | inr y =>
            rw [e1] at hr
            obtain ⟨q2, u, v, rfl, hu, hv⟩ := dd_s e1
            obtain ⟨v3, q3, h3, l3, u3⟩ := rn_i hr
            obtain ⟨k3, -, k4, rfl⟩ := in_nI (by decide) (by omega) l3 u3
            exact ⟨q3, u, v, k3, h3, hu, hv, k4⟩
        by_cases c6 : kd = 6 ∨ kd = 7
        · rw [if_pos c6] at h
          obtain ⟨q', u, v, z, e, hu, hv, hz⟩ := third 7 (by decide) h
          cases e
          dsimp only
          refine ⟨by omega, fun j hj => by rw [up_ne (by omega), up_ne (by omega), up_ne (by omega)], by omega, ⟨u, hu, ?_⟩, ⟨v, hv, ?_⟩, fun _ => ⟨by omega, z, hz, ?_⟩, fun h9 => by omega⟩
          · rw [up_ne (by omega), up_ne (by omega), Nat.add_zero, up_eq]
          · rw [up_ne (by omega), up_eq]
          · rw [up_eq]
        · rw [if_neg c6] at h
          by_cases c9 : kd = 9 ∨ kd = 13
          · rw [if_pos c9] at h
            obtain ⟨q', u, v, z, e, hu, hv, hz⟩ := third 3 (by decide) h
            cases e
            dsimp only
            refine ⟨by omega, fun j hj => by rw [up_ne (by omega), up_ne (by omega), up_ne (by omega)], by omega, ⟨u, hu, ?_⟩, ⟨v, hv, ?_⟩, fun h6 => absurd h6 c6, fun _ => ⟨by omega, z, hz, ?_⟩⟩
            · rw [up_ne (by omega), up_ne (by omega), Nat.add_zero, up_eq]
            · rw [up_ne (by omega), up_eq]
            · rw [up_eq]
          · rw [if_neg c9] at h
            obtain ⟨q2, u, v, e, hu, hv⟩ := dd_s h
            cases e
            dsimp only
            refine ⟨by omega, fun j hj => by rw [up_ne (by omega), up_ne (by omega)], by omega, ⟨u, hu, ?_⟩, ⟨v, hv, ?_⟩, fun h6 => absurd h6 c6, fun h9 => absurd h9 c9⟩
            · rw [up_ne (by omega), Nat.add_zero, up_eq]
            · rw [up_eq]
      · rw [if_neg c4]
        have m0 : ∀ k a b, va_up (va_up (va_up N f (nI k)) (f + 1) (nI a)) (f + 2) (nI b) (f + 0) = nI k := fun k a b => by rw [up_ne (by omega), up_ne (by omega), Nat.add_zero, up_eq]
        have m1 : ∀ k a b, va_up (va_up (va_up N f (nI k)) (f + 1) (nI a)) (f + 2) (nI b) (f + 1) = nI a := fun k a b => by rw [up_ne (by omega), up_eq]
        have m2 : ∀ k a b, va_up (va_up (va_up N f (nI k)) (f + 1) (nI a)) (f + 2) (nI b) (f + 2) = nI b := fun k a b => up_eq
        have mo : ∀ k a b j, j < f → va_up (va_up (va_up N f (nI k)) (f + 1) (nI a)) (f + 2) (nI b) j = N j := fun k a b j hj => by rw [up_ne (by omega), up_ne (by omega), up_ne (by omega)]
        by_cases c3 : kd = 3
        · subst c3
          rw [if_pos rfl]
          have hh : hdp T n 3 (.inr (w, f, N)) = gg T n (.inr (w, f, N)) := rfl
          rw [hh] at h
          cases e1 : gg T n (.inr (w, f, N)) with
          | inl e => rw [e1] at h; cases h
          | inr y =>
            rw [e1] at h
            obtain ⟨p9, f9, N9, q9, k9, a, b, e5, rfl, u1, u2, u3, u4, u5, u6, u7⟩ := gg_s e1
            cases e5
            unfold bdp at h
            dsimp only at h
            rw [if_neg (show ¬ (3:Nat) = 2 by decide), if_pos rfl, m1, m2, i_cl (by omega), i_sub (by omega)] at h
            obtain ⟨q2, N2, e, g2, g3⟩ := egs_s (by omega) _ _ h
            cases e
            refine ⟨by omega, fun j hj => by rw [g2 j (by omega)]; exact mo _ _ _ j hj, a, b, ⟨⟨k9, u1, ?_⟩, ?_, ?_⟩, u2, u3, u4, u5, by omega, fun i hi => ?_⟩
            · dsimp only
              rw [g2 _ (by omega), m0]
            · dsimp only
              rw [g2 _ (by omega), m1]
            · dsimp only
              rw [g2 _ (by omega), m2]
            · obtain ⟨u, hu, hv⟩ := g3 i hi
              exact ⟨u, by omega, by dsimp only; rw [show f + (3 + i) = f + 3 + i by omega]; exact hv⟩
        · rw [if_neg c3]
          have hh : hdp T n kd (.inr (w, f, N)) = rr T n (.inr (w, f, N)) := by
            unfold hdp
            rw [if_neg c0, if_neg c4, if_neg c3]
          rw [hh] at h
          cases e1 : rr T n (.inr (w, f, N)) with
          | inl e => rw [e1] at h; cases h
          | inr y =>
            rw [e1] at h
            obtain ⟨p9, f9, N9, q9, k9, a, b, e5, rfl, u1, u2, u3, u4, u5, u6, u7⟩ := rr_s e1
            cases e5
            unfold bdp at h
            dsimp only at h
            rw [m1, m2, i_cl (by omega), i_cl (by omega)] at h
            by_cases c2 : kd = 2
            · rw [if_pos c2] at h
              obtain ⟨q2, N2, e, g2, g3⟩ := wt_s _ _ h
              cases e
              refine ⟨by omega, fun j hj => by rw [g2 j (by omega)]; exact mo _ _ _ j hj, a, b, ⟨⟨k9, u1, ?_⟩, ?_, ?_⟩, u2, u3, u4, u5, fun h1 => by omega, fun _ => ⟨by omega, fun i hi => ?_⟩, fun h4 => by omega⟩
              · dsimp only
                rw [g2 _ (by omega), m0]
              · dsimp only
                rw [g2 _ (by omega), m1]
              · dsimp only
                rw [g2 _ (by omega), m2]
              · dsimp only
                rw [show f + (3 + i) = f + 3 + i by omega]
                exact g3 i hi
            · rw [if_neg c2, if_neg c3] at h
              by_cases c44 : kd = 4
              · rw [if_pos c44] at h
                obtain ⟨q2, m, N2, e, g2, g3, g4⟩ := ssi_s _ _ h
                cases e
                refine ⟨by omega, fun j hj => by rw [g2 j (by omega)]; exact mo _ _ _ j hj, a, b, ⟨⟨k9, u1, ?_⟩, ?_, ?_⟩, u2, u3, u4, u5, fun h1 => by omega, fun h2 => absurd h2 c2, fun _ => ⟨m, by omega, fun i hi => ?_, fun i j hij hj => ?_⟩⟩
                · dsimp only
                  rw [g2 _ (by omega), m0]
                · dsimp only
                  rw [g2 _ (by omega), m1]
                · dsimp only
                  rw [g2 _ (by omega), m2]
                · dsimp only
                  rw [show f + (3 + 2 * i) = f + 3 + 2 * i by omega, show f + (3 + 2 * i + 1) = f + 3 + 2 * i + 1 by omega]
                  exact g3 i hi
                · dsimp only
                  rw [show f + (3 + 2 * i) = f + 3 + 2 * i by omega, show f + (3 + 2 * j) = f + 3 + 2 * j by omega]
                  exact g4 i j hij hj
              · rw [if_neg c44] at h
                cases h
                refine ⟨by omega, fun j hj => mo _ _ _ j hj, a, b, ⟨⟨k9, u1, ?_⟩, ?_, ?_⟩, u2, u3, u4, u5, fun h1 => by omega, fun h2 => absurd h2 c2, fun h4 => absurd h4 c44⟩
                · exact m0 _ _ _
                · exact m1 _ _ _
                · exact m2 _ _ _
  · rw [if_neg hk] at h
    cases h
/-- where clause k's numbers end -/
def enk (m f : Nat) (st : Nat → Nat) (k : Nat) : Nat := if k + 1 = m then f else st (k + 1)
def CFs (m f : Nat) (ks st : Nat → Nat) (N : Nat → Int32) : Prop := ∀ k, k < m → st k ≤ enk m f st k ∧ enk m f st k ≤ f ∧ ks k < 14 ∧ CFk (ks k) (fun i => N (st k + i)) (enk m f st k - st k)
theorem CFs_s {T : Nat → Nat} {n p f q f1 i : Nat} {ks st : Nat → Nat} {N N1 : Nat → Int32} (h : clp T n p f N = .inr (q, f1, N1)) (hC : CFs i f ks st N) : CFs (i + 1) f1 (va_up ks i (kdw T p (wend T n p))) (va_up st i f) N1 := by
  obtain ⟨h1, h2, h3, h4⟩ := clp_s h
  intro k hk
  unfold enk
  by_cases c : k = i
  · subst c
    rw [if_pos rfl, up_eq, up_eq]
    exact ⟨h2, Nat.le_refl _, h1, h4⟩
  · obtain ⟨g1, g2, g3, g4⟩ := hC k (by omega)
    rw [if_neg (by omega), up_ne c, up_ne c]
    have e : va_up st i f (k + 1) = enk i f st k := by
      unfold enk
      by_cases c2 : k + 1 = i
      · rw [if_pos c2, c2, up_eq]
      · rw [if_neg c2, up_ne c2]
    rw [e]
    exact ⟨g1, by omega, g3, CFk_cong g4 (fun j hj => h3 _ (by omega))⟩
theorem rsq_f {T : Nat → Nat} {n : Nat} : ∀ i, match rsq T n i with
    | .inl _ => True
    | .inr (.inl (ks, st, _, f, N)) => CFs i f ks st N
    | .inr (.inr (m, ks, st, _, f, N)) => CFs m f ks st N
  | 0 => fun k hk => absurd hk (Nat.not_lt_zero _)
  | i + 1 => by
    have ih := rsq_f (T := T) (n := n) i
    have e : rsq T n (i + 1) = nxt T n i (rsq T n i) := rfl
    rw [e]
    cases hs : rsq T n i with
    | inl e => trivial
    | inr y =>
      cases y with
      | inl y =>
        obtain ⟨ks, st, p, f, N⟩ := y
        rw [hs] at ih
        dsimp only at ih
        unfold nxt
        dsimp only
        cases hc : clp T n p f N with
        | inl e => trivial
        | inr z =>
          obtain ⟨q, f1, N1⟩ := z
          have := CFs_s hc ih
          dsimp only
          by_cases c1 : q < n
          · rw [if_pos c1]
            by_cases c2 : T q = 59
            · rw [if_pos c2]
              exact this
            · rw [if_neg c2]
              trivial
          · rw [if_neg c1]
            exact this
      | inr y =>
        rw [hs] at ih
        exact ih
theorem rtx_f {T : Nat → Nat} {n M m q f : Nat} {ks st : Nat → Nat} {N : Nat → Int32} (h : rtx T n M = .inr (m, ks, st, q, f, N)) : CFs m f ks st N := by
  have hf := rsq_f (T := T) (n := n) M
  unfold rtx at h
  cases hs : rsq T n M with
  | inl e => rw [hs] at h; cases h
  | inr y =>
    rw [hs] at h hf
    cases y with
    | inl y => cases h
    | inr y =>
      cases h
      exact hf
