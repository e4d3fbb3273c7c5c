/-! Out of whole's part 79u.sets, by wip/p46/extract.py. -/
def okS (n0 r f0 f : Nat) (N : Nat → Int32) : Prop := ∃ k, k < 256 ∧ N (f - 1) = nI k ∧ pc k = r ∧ k < 2 ^ n0 ∧ ∀ j, f0 + 2 * j + 1 < f → ¬ N (f0 + 2 * j) = nI k
noncomputable def sst (T : Nat → Nat) (n n0 r f0 : Nat) : RS → RS
  | .inl e => .inl e
  | .inr (p, f, N) => match rn T n (nI 0) (nI 255) (.inr (p, f, N)) with
    | .inl e => .inl e
    | .inr (p1, f1, N1) => cif (okS n0 r f0 f1 N1) (rn T n (-1000000) (nI 1000000) (.inr (p1, f1, N1))) (.inl (fa 6 (p + 1)))
theorem sst_e {T : Nat → Nat} {n n0 r f0 p f : Nat} {N : Nat → Int32} {e : Int32} (h : rn T n (nI 0) (nI 255) (.inr (p, f, N)) = .inl e) : sst T n n0 r f0 (.inr (p, f, N)) = .inl e := by
  unfold sst
  dsimp only
  rw [h]
theorem sst_s {T : Nat → Nat} {n n0 r f0 p f p1 f1 : Nat} {N N1 : Nat → Int32} (h : rn T n (nI 0) (nI 255) (.inr (p, f, N)) = .inr (p1, f1, N1)) : sst T n n0 r f0 (.inr (p, f, N)) = cif (okS n0 r f0 f1 N1) (rn T n (-1000000) (nI 1000000) (.inr (p1, f1, N1))) (.inl (fa 6 (p + 1))) := by
  unfold sst
  dsimp only
  rw [h]
def gos (T : Nat → Nat) (n : Nat) : RS → Bool
  | .inl _ => false
  | .inr (p, _, _) => isA T n p 32
noncomputable def ssi (T : Nat → Nat) (n n0 r f0 : Nat) (s : RS) : Nat → RS
  | 0 => s
  | i + 1 => if i = 0 ∨ gos T n (ssi T n n0 r f0 s i) = true then sst T n n0 r f0 (ssi T n n0 r f0 s i) else ssi T n n0 r f0 s i
theorem ssi_e {T : Nat → Nat} {n n0 r f0 i : Nat} {s : RS} (h1 : 1 ≤ i) (h : ¬ gos T n (ssi T n n0 r f0 s i) = true) : ∀ m, ssi T n n0 r f0 s (i + m) = ssi T n n0 r f0 s i
  | 0 => rfl
  | m + 1 => by
    show (if i + m = 0 ∨ gos T n (ssi T n n0 r f0 s (i + m)) = true then sst T n n0 r f0 (ssi T n n0 r f0 s (i + m)) else ssi T n n0 r f0 s (i + m)) = ssi T n n0 r f0 s i
    rw [ssi_e h1 h m]
    exact if_neg (fun h2 => h2.elim (fun h2 => by omega) h)
theorem c_15 {I0 I : ai_I} {p f i fs : Nat} {L : ai_G} {x e : Int32} {N : Nat → Int32} (hf : f ≤ 100) (hi : f = fs + 2 * i + 1) (h : CM I0 I p f e N) : wp (m_15 43 x (nI i) I (Rc 42) (Gc L)) (yn (∃ j, fs + 2 * j + 1 < f ∧ N (fs + 2 * j) = x)) := by
  obtain ⟨h1, h2, h3, h4, h5, h6⟩ := h
  unfold m_15
  refine wp_s2 (wp_lp (fun k s => 1 ≤ k ∧ s = nI k ∧ ∀ m, 1 ≤ m → m < k → ¬ N (f - 1 - 2 * m) = x) 1 (i + 1) (by omega) (by omega) ⟨Nat.le_refl _, rfl, fun m m1 m2 => by omega⟩ ?_ ?_)
  · rintro k s hk ⟨k1, rfl, hn⟩
    unfold m_15_b2
    have e1 : I 43 8 - nI 1 - nI 2 * nI k = nI (f - 1 - 2 * k) := by rw [h4, i_mul, i_sub (by omega), i_sub (by omega)]
    rw [if_neg (nI_nlt (by omega) (by omega)), e1, o_b1_s, if_neg (nI_pos (by omega)), show Rc 42 43 7 = 47 from rfl, g_47 (by omega), o_g_t, i_cl (by omega), h6 _ (by omega)]
    by_cases c : N (f - 1 - 2 * k) = x
    · rw [if_pos c, wp_s, lq_r, lq_l, m_15_x2_35, wp_s]
      exact Or.inl ⟨rfl, i - k, by omega, by rw [← c, show fs + 2 * (i - k) = f - 1 - 2 * k by omega]⟩
    · rw [if_neg c, i_add, o_b1_s, wp_s, lq_l]
      refine ⟨by omega, rfl, fun m m1 m2 => ?_⟩
      by_cases e2 : m = k
      · rw [e2]
        exact c
      · exact hn m m1 (by omega)
  · rintro s ⟨k1, rfl, hn⟩
    unfold m_15_b2
    rw [if_pos (nI_lt (by omega) (by omega)), wp_s, lq_r, lq_r, m_15_x2_43, wp_s]
    refine Or.inr ⟨rfl, fun ⟨j, j1, j2⟩ => hn (i - j) (by omega) (by omega) ?_⟩
    rw [← j2, show f - 1 - 2 * (i - j) = fs + 2 * j by omega]
theorem c_15e {I0 I : ai_I} {p f i : Nat} {L : ai_G} {x e : Int32} {N : Nat → Int32} (hf : f ≤ 100) (hi : i ≤ 100) (h : CM I0 I p f e N) : wp (m_15 43 x (nI i) I (Rc 42) (Gc L)) (fun _ => True) := by
  obtain ⟨h1, h2, h3, h4, h5, h6⟩ := h
  unfold m_15
  refine wp_s2 (wp_lp (fun k s => 1 ≤ k ∧ s = nI k) 1 (i + 1) (by omega) (by omega) ⟨Nat.le_refl _, rfl⟩ ?_ ?_)
  · rintro k s hk ⟨k1, rfl⟩
    unfold m_15_b2
    rw [if_neg (nI_nlt (by omega) (by omega)), h4, i_mul, o_b1_s]
    by_cases c : 2 * k + 1 ≤ f
    · rw [i_sub (by omega), i_sub (by omega), if_neg (nI_pos (by omega)), show Rc 42 43 7 = 47 from rfl, g_47 (by omega), o_g_t]
      split
      · rw [wp_s, lq_r, lq_l, m_15_x2_35, wp_s]
        trivial
      · rw [i_add, o_b1_s, wp_s, lq_l]
        exact ⟨by omega, rfl⟩
    · have neg : nI f - nI 1 - nI (2 * k) < 0 := by
        rw [Int32.lt_iff_toInt_lt, Int32.toInt_sub, Int32.toInt_sub, nI_toInt (by omega), nI_toInt (by omega), nI_toInt (by omega), Int.bmod_eq_of_le (n := (f : Int) - (1 : Nat)) (by omega) (by omega), Int.bmod_eq_of_le (by omega) (by omega)]
        show _ < (0 : Int)
        omega
      rw [if_pos neg, i_add, o_b1_s, wp_s, lq_l]
      exact ⟨by omega, rfl⟩
  · rintro s ⟨k1, rfl⟩
    unfold m_15_b2
    rw [if_pos (nI_lt (by omega) (by omega)), wp_s, lq_r, lq_r, m_15_x2_43, wp_s]
    trivial
theorem c_14e1 {I0 I : ai_I} {n f0 i : Nat} {L : ai_G} {T : Nat → Nat} {e : Int32} {Q : Int32 × ai_I → Prop} {R : ai_I → Prop} (hT : TX I0 T n) (hi : i < 100) (h : CL I0 n f0 I (.inl e)) (hQ : ∀ K, CL I0 n f0 K (.inl e) → Q (nI (i + 1), K)) : wp (m_14_j81 43 (Rc 42) (Gc L) (nI i) I) (lq Q R) := by
  unfold m_14_j81
  refine wp_b2 (c_16' (T := T) hT h ?_)
  intro v K hK _
  rw [i_add, o_b1_s, wp_s, lq_l]
  exact hQ K hK
theorem c_14e2 {I0 I : ai_I} {n f0 i : Nat} {L : ai_G} {T : Nat → Nat} {e x : Int32} {Q : Int32 × ai_I → Prop} {R : ai_I → Prop} (hT : TX I0 T n) (hi : i < 100) (h : CL I0 n f0 I (.inl e)) (hQ : ∀ K, CL I0 n f0 K (.inl e) → Q (nI (i + 1), K)) : wp (m_14_j73 43 (Rc 42) (Gc L) (nI i) x I) (lq Q R) := by
  unfold m_14_j73
  refine wp_b1 (wp_mono (c_5e h) ?_)
  intro K hK
  exact c_14e1 hT hi hK hQ
theorem c_14 {I0 I : ai_I} {n f0 n0 r p0 fs : Nat} {L : ai_G} {N0 : Nat → Int32} {T : Nat → Nat} {M : Nat} (hM : M = 100) (hn0 : n0 ≤ 8) (hr : r ≤ 8) (hT : TX I0 T n) (h : CL I0 n f0 I (.inr (p0, fs, N0))) : wp (m_14 43 (nI n0) (nI r) I (Rc 42) (Gc L)) (fun K => CL I0 n f0 K (ssi T n n0 r fs (.inr (p0, fs, N0)) M)) := by
  have hT3 : ∀ k, k < n → T k < 256 := fun k hk => (hT.2.2 k hk).1
  have hn := hT.2.1
  have hp2 : 2 ^ n0 ≤ 256 := p2_le hn0
  unfold m_14
  refine wp_s1 (wp_lp (fun i s2 => s2.1 = nI i ∧ CL I0 n f0 s2.2 (ssi T n n0 r fs (.inr (p0, fs, N0)) i) ∧ ∀ p f N, ssi T n n0 r fs (.inr (p0, fs, N0)) i = .inr (p, f, N) → f = fs + 2 * i) 0 M (Nat.zero_le _) (by omega) ⟨rfl, h, fun p f N hh => by cases hh; rfl⟩ ?_ ?_)
  · rintro i ⟨a, K⟩ hi ⟨g1, g2, g3⟩
    dsimp only at g1 g2 g3
    subst g1
    unfold m_14_b2
    dsimp only
    rw [if_neg (nI_ge (show i < 100 by omega) (by omega))]
    have stop : 1 ≤ i → ¬ gos T n (ssi T n n0 r fs (.inr (p0, fs, N0)) i) = true → ∃ t, K = t ∧ CL I0 n f0 t (ssi T n n0 r fs (.inr (p0, fs, N0)) M) := fun h1 h2 => by
      refine ⟨K, rfl, ?_⟩
      rw [show M = i + (M - i) by omega, ssi_e h1 h2]
      exact g2
    have stp : (i = 0 ∨ gos T n (ssi T n n0 r fs (.inr (p0, fs, N0)) i) = true) → ssi T n n0 r fs (.inr (p0, fs, N0)) (i + 1) = sst T n n0 r fs (ssi T n n0 r fs (.inr (p0, fs, N0)) i) := fun h1 => if_pos h1
    generalize hs : ssi T n n0 r fs (.inr (p0, fs, N0)) i = s at g2 g3 stop stp
    rcases CL_0 g2 with ⟨z, x, hx⟩ | ⟨z, e, he⟩
    · obtain ⟨p, f, N⟩ := x
      subst hx
      have hf := g3 p f N rfl
      obtain ⟨b1, b2, b3, hC⟩ := id g2
      rw [if_pos z]
      have go : (i = 0 ∨ gos T n (.inr (p, f, N)) = true) → wp (m_14_j28 43 (nI n0) (nI r) (Rc 42) (Gc L) (nI i) K) (lq (fun s2 => s2.1 = nI (i + 1) ∧ CL I0 n f0 s2.2 (ssi T n n0 r fs (.inr (p0, fs, N0)) (i + 1)) ∧ ∀ p f N, ssi T n n0 r fs (.inr (p0, fs, N0)) (i + 1) = .inr (p, f, N) → f = fs + 2 * (i + 1)) (fun t => wp (m_14_x2_96 t) (fun K => CL I0 n f0 K (ssi T n n0 r fs (.inr (p0, fs, N0)) M)))) := fun hg => by
        rw [stp hg]
        unfold m_14_j28
        rw [hC.2.2.1, i_add, o_b1_s]
        refine wp_b2 (c_16' (lo := nI 0) (hi := nI 255) (T := T) hT g2 ?_)
        intro v1 K1 hK1 hv1
        dsimp only
        cases hs1 : rn T n (nI 0) (nI 255) (.inr (p, f, N)) with
        | inl e =>
          rw [hs1] at hK1
          rw [sst_e hs1]
          have fin : ∀ K2, CL I0 n f0 K2 (.inl e) → (fun s2 : Int32 × ai_I => s2.1 = nI (i + 1) ∧ CL I0 n f0 s2.2 (.inl e) ∧ ∀ p f N, (Sum.inl e : RS) = .inr (p, f, N) → f = fs + 2 * (i + 1)) (nI (i + 1), K2) := fun K2 hK2 => ⟨rfl, hK2, fun _ _ _ hh => by cases hh⟩
          obtain ⟨v, hv⟩ : ∃ v, m_115 v1 = some v := ⟨_, rfl⟩
          rw [hv, o_b1_s]
          split
          · split
            · exact c_14e2 hT (show i < 100 by omega) hK1 fin
            · obtain ⟨he, q1, q2, q3, q4, q5, q6, hC1⟩ := id hK1
              refine wp_b1 (wp_mono (c_15e q6 (by omega) hC1) ?_)
              intro y _
              split
              · exact c_14e1 hT (show i < 100 by omega) hK1 fin
              · exact c_14e2 hT (show i < 100 by omega) hK1 fin
          · exact c_14e2 hT (show i < 100 by omega) hK1 fin
        | inr y =>
          obtain ⟨p1, f1, N1⟩ := y
          rw [hs1] at hK1 hv1
          obtain ⟨q1, q2, q3, hC1⟩ := id hK1
          rw [sst_s hs1]
          have hl1 : v1 = N1 (f1 - 1) := hv1 _ rfl
          obtain ⟨w1, w2, w3, w4, w5, w6⟩ : f1 = f + 1 ∧ isA T n p 32 = true ∧ (nI 0 ≤ N1 (f1 - 1) ∧ N1 (f1 - 1) ≤ nI 255) ∧ p + 2 ≤ p1 ∧ (∀ j, j < f → N1 j = N j) ∧ p1 ≤ n := by
            rw [rn_nx] at hs1
            cases hr2 : rdN T n (nI 0) (nI 255) p with
            | inl e => rw [hr2] at hs1; cases hs1
            | inr y =>
              rw [hr2] at hs1
              cases hs1
              have := rdN_p hr2
              refine ⟨rfl, this.2.2.1, by rw [Nat.add_sub_cancel, up_eq]; exact this.2.2.2, this.1, fun j hj => up_ne (by omega), this.2.1⟩
          obtain ⟨k, k1, k2⟩ : ∃ k, k ≤ 255 ∧ N1 (f1 - 1) = nI k := by
            rcases x_cases (N1 (f1 - 1)) (n := 255) (by decide) with h | h
            · exact h
            · exact absurd w3 h
          have bad : ¬ okS n0 r fs f1 N1 → wp (m_14_j73 43 (Rc 42) (Gc L) (nI i) (nI (p + 1)) K1) (lq (fun s2 => s2.1 = nI (i + 1) ∧ CL I0 n f0 s2.2 (cif (okS n0 r fs f1 N1) (rn T n (-1000000) (nI 1000000) (.inr (p1, f1, N1))) (.inl (fa 6 (p + 1)))) ∧ ∀ p_1 f_1 N_1, cif (okS n0 r fs f1 N1) (rn T n (-1000000) (nI 1000000) (.inr (p1, f1, N1))) (.inl (fa 6 (p + 1))) = .inr (p_1, f_1, N_1) → f_1 = fs + 2 * (i + 1)) (fun t => wp (m_14_x2_96 t) (fun K => CL I0 n f0 K (ssi T n n0 r fs (.inr (p0, fs, N0)) M)))) := fun hb => by
            rw [cif_f hb]
            unfold m_14_j73
            refine wp_b1 (wp_mono (c_5 hC1) ?_)
            intro K3 hK3
            rw [if_pos rfl] at hK3
            exact c_14e1 hT (show i < 100 by omega) (CL_e (fa_ne (c := 6) (p := p + 1) (by omega) (by decide) (by decide)) q1 q2 (by omega) hK3) (fun K2 hK2 => ⟨rfl, hK2, fun _ _ _ hh => by cases hh⟩)
          have good : okS n0 r fs f1 N1 → wp (m_14_j81 43 (Rc 42) (Gc L) (nI i) K1) (lq (fun s2 => s2.1 = nI (i + 1) ∧ CL I0 n f0 s2.2 (cif (okS n0 r fs f1 N1) (rn T n (-1000000) (nI 1000000) (.inr (p1, f1, N1))) (.inl (fa 6 (p + 1)))) ∧ ∀ p_1 f_1 N_1, cif (okS n0 r fs f1 N1) (rn T n (-1000000) (nI 1000000) (.inr (p1, f1, N1))) (.inl (fa 6 (p + 1))) = .inr (p_1, f_1, N_1) → f_1 = fs + 2 * (i + 1)) (fun t => wp (m_14_x2_96 t) (fun K => CL I0 n f0 K (ssi T n n0 r fs (.inr (p0, fs, N0)) M)))) := fun hb => by
            rw [cif_t hb]
            unfold m_14_j81
            refine wp_b2 (c_16' (lo := -1000000) (hi := nI 1000000) (T := T) hT hK1 ?_)
            intro v2 K2 hK2 _
            rw [i_add, o_b1_s, wp_s, lq_l]
            refine ⟨rfl, hK2, fun p2 f2 N2 hh => ?_⟩
            rw [rn_nx] at hh
            cases hr2 : rdN T n (-1000000) (nI 1000000) p1 with
            | inl e => rw [hr2] at hh; cases hh
            | inr y =>
              rw [hr2] at hh
              cases hh
              omega
          rw [hl1, k2, s_331 (by omega), o_b1_s]
          by_cases c1 : pc k = r
          · rw [if_pos (show nI (pc k) = nI r by rw [c1]), show nI 1 <<< (nI n0 &&& 31) = nI (2 ^ n0) by rw [i_shl (by decide) (by omega), Nat.one_mul]]
            by_cases c2 : 2 ^ n0 ≤ k
            · rw [if_pos (nI_le c2 (by omega))]
              exact bad (fun ⟨k', a1, a2, a3, a4, _⟩ => by
                rw [k2, i_eq (by omega) (by omega)] at a2
                omega)
            · rw [if_neg (nI_ge (by omega) (by omega))]
              refine wp_b1 (wp_mono (c_15 (fs := fs) (by omega) (by omega) hC1) ?_)
              intro y hy
              rcases hy with ⟨rfl, c3⟩ | ⟨rfl, c3⟩
              · rw [if_neg (show ¬ nI 1 = 0 by decide)]
                exact bad (fun ⟨k', a1, a2, a3, a4, a5⟩ => by
                  obtain ⟨j, j1, j2⟩ := c3
                  exact a5 j j1 (by rw [j2, ← k2, a2]))
              · rw [if_pos (show nI 0 = 0 from rfl)]
                exact good ⟨k, by omega, k2, c1, by omega, fun j j1 j2 => c3 ⟨j, j1, j2⟩⟩
          · rw [if_neg (show ¬ nI (pc k) = nI r by
              have := pc_le k
              rw [i_eq (by omega) (by omega)]
              exact c1)]
            exact bad (fun ⟨k', a1, a2, a3, a4, _⟩ => by
              rw [k2, i_eq (by omega) (by omega)] at a2
              exact c1 (by rw [a2]; exact a3))
      by_cases c0 : i = 0
      · rw [if_pos (show nI i = 0 by rw [c0]; rfl)]
        exact go (Or.inl c0)
      · rw [if_neg (show ¬ nI i = 0 by rw [i_e0 (by omega)]; exact c0), c_6 hT b1 hC, o_b1_s]
        by_cases c : isA T n p 32 = true
        · rw [if_pos ((sg_eq hT3 (by decide)).2 c)]
          exact go (Or.inr c)
        · rw [if_neg (fun h => c ((sg_eq hT3 (by decide)).1 h)), wp_s, lq_r]
          obtain ⟨t, rfl, ht⟩ := stop (by omega) c
          exact ⟨_, rfl, ht⟩
    · subst he
      have hi0 : 1 ≤ i := by
        by_cases c : i = 0
        · subst c
          cases hs
        · omega
      rw [if_neg z, wp_s, lq_r]
      obtain ⟨t, rfl, ht⟩ := stop hi0 (fun h => by cases h)
      exact ⟨_, rfl, ht⟩
  · rintro ⟨a, K⟩ ⟨g1, g2, g3⟩
    dsimp only at g1 g2
    subst g1
    unfold m_14_b2
    dsimp only
    rw [if_pos (show nI 100 ≤ nI M by rw [hM]; exact Int32.le_refl _), wp_s, lq_r]
    exact ⟨K, rfl, g2⟩
theorem c_14f {I0 I : ai_I} {n f0 : Nat} {L : ai_G} {a b e : Int32} (h : CL I0 n f0 I (.inl e)) : wp (m_14 43 a b I (Rc 42) (Gc L)) (fun K => CL I0 n f0 K (.inl e)) := by
  have z : ¬ I 43 1 = 0 := by
    rcases CL_0 h with ⟨-, x, hx⟩ | ⟨z, -⟩
    · cases hx
    · exact z
  unfold m_14
  refine wp_s1 (wp_lp (fun i s2 => i = 0 ∧ s2.2 = I) 0 1 (Nat.zero_le _) (by omega) ⟨rfl, rfl⟩ ?_ ?_)
  · rintro i ⟨b, K⟩ hi ⟨g1, g2⟩
    dsimp only at g2
    subst g2
    unfold m_14_b2
    dsimp only
    rw [if_neg z]
    split
    · rw [wp_s, lq_r]
      exact ⟨_, rfl, h⟩
    · rw [wp_s, lq_r]
      exact ⟨_, rfl, h⟩
  · rintro ⟨b, K⟩ ⟨g1, g2⟩
    exact absurd g1 (by decide)
