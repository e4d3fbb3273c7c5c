/-! Out of whole's part 79x.clause, by wip/p46/extract.py. -/
theorem CL_f {I0 I J0 J : ai_I} {n f0 : Nat} {s : RS} (h : CL I0 n f0 I s) (h1 : ∀ c, ¬ c = 43 → ¬ c = 47 → I c = I0 c → J c = J0 c) (h2 : ∀ j, ¬ j = 1 → ¬ j = 4 → ¬ j = 8 → I 43 j = I0 43 j → J 43 j = J0 43 j) (h3 : ∀ j, j = 1 ∨ j = 4 ∨ j = 8 → J 43 j = I 43 j) (h4 : J 47 = I 47) : CL J0 n f0 J s := by
  have cm : ∀ p f e N, CM I0 I p f e N → CM J0 J p f e N := fun p f e N hC => ⟨fun c c1 c2 => h1 c c1 c2 (hC.1 c c1 c2), fun j j1 j2 j3 => h2 j j1 j2 j3 (hC.2.1 j j1 j2 j3), by rw [h3 4 (by omega)]; exact hC.2.2.1, by rw [h3 8 (by omega)]; exact hC.2.2.2.1, by rw [h3 1 (by omega)]; exact hC.2.2.2.2.1, fun k hk => by rw [h4]; exact hC.2.2.2.2.2 k hk⟩
  cases s with
  | inl e =>
    obtain ⟨he, p, f, N, p1, p2, p3, hC⟩ := h
    exact ⟨he, p, f, N, p1, p2, p3, cm _ _ _ _ hC⟩
  | inr y =>
    obtain ⟨p, f, N⟩ := y
    exact ⟨h.1, h.2.1, h.2.2.1, cm _ _ _ _ h.2.2.2⟩
theorem CL_8 {I0 I : ai_I} {n f0 : Nat} {s : RS} (h : CL I0 n f0 I s) : ∃ f, f0 ≤ f ∧ (n ≤ 200 → f ≤ 100) ∧ I 43 8 = nI f ∧ ∀ p f' N, s = .inr (p, f', N) → f' = f ∧ ∀ j, j < f → I 47 j = N j := by
  cases s with
  | inl e =>
    obtain ⟨he, p, f, N, p1, p2, p3, hC⟩ := h
    exact ⟨f, p2, fun _ => p3, hC.2.2.2.1, fun _ _ _ hh => by cases hh⟩
  | inr y =>
    obtain ⟨p, f, N⟩ := y
    obtain ⟨h1, h2, h3, hC⟩ := h
    exact ⟨f, h2, fun _ => by omega, hC.2.2.2.1, fun _ _ _ hh => by cases hh; exact ⟨rfl, hC.2.2.2.2.2⟩⟩
theorem CL_fr {I0 I : ai_I} {n f0 : Nat} {s : RS} (h : CL I0 n f0 I s) : (∀ c, ¬ c = 43 → ¬ c = 47 → I c = I0 c) ∧ ∀ j, ¬ j = 1 → ¬ j = 4 → ¬ j = 8 → I 43 j = I0 43 j := by
  cases s with
  | inl e =>
    obtain ⟨-, _, _, _, -, -, -, hh⟩ := h
    exact ⟨hh.1, hh.2.1⟩
  | inr y => exact ⟨h.2.2.2.1, h.2.2.2.2.1⟩
theorem c_7 {I : ai_I} {n p f k : Nat} {L : ai_G} {T : Nat → Nat} {N : Nat → Int32} (hk : k < 16) (hT : TX I T n) (hp : p ≤ n) (hf : 2 * f ≤ p) (e4 : I 43 4 = nI p) (e8 : I 43 8 = nI f) (e1 : I 43 1 = 0) (eN : ∀ j, j < f → I 47 j = N j) : wp (m_7 43 (nI k) I (Rc 42) (Gc L)) (fun M => CCl T n k f (kdw T p (wend T n p)) I M (clp T n p f N)) := by
  have hT3 : ∀ k, k < n → T k < 256 := fun k hk => (hT.2.2 k hk).1
  have hn := hT.2.1
  have hwl := wend_le (T := T) hp
  have hpw : p ≤ wend T n p := by
    unfold wend
    omega
  unfold m_7
  rw [r_43_6, g_46 (by omega), o_g_t, i_cl (by omega), e8, o_b1_s]
  generalize hI9 : va_up I 46 (va_up (I 46) k (nI f)) = I9
  have i9 : ∀ c, ¬ c = 46 → I9 c = I c := fun c hc => by rw [← hI9, up_ne hc]
  have i946 : I9 46 = va_up (I 46) k (nI f) := by rw [← hI9, up_eq]
  have hT9 : TX I9 T n := ⟨by rw [i9 43 (by decide)]; exact hT.1, hn, fun j hj => ⟨hT3 j hj, by rw [i9 42 (by decide)]; exact (hT.2.2 j hj).2⟩⟩
  have hC9 : CM I9 I9 p f 0 N := ⟨fun _ _ _ => rfl, fun _ _ _ _ => rfl, by rw [i9 43 (by decide)]; exact e4, by rw [i9 43 (by decide)]; exact e8, by rw [i9 43 (by decide)]; exact e1, fun j hj => by rw [i9 47 (by decide)]; exact eN j hj⟩
  refine wp_b2 (wp_mono (c_8 (L := L) hT9 hp hC9) ?_)
  rintro ⟨r, I16⟩ hr
  dsimp only at hr ⊢
  rw [r_43_5, g_45 (by omega), o_g_t, o_b1_s, o_g_t, up_eq, up_eq]
  rcases hr with ⟨hkd, rfl, hC⟩ | ⟨hkd, rfl, hC⟩
  · generalize hq : wend T n p = q at hkd hC hwl hpw ⊢
    generalize hkk : kdw T p q = kd at hkd ⊢
    have ecl : clp T n p f N = bdp T n kd f (hdp T n kd (.inr (q, f, N))) := by
      unfold clp
      rw [hq, hkk, if_pos hkd]
    rw [ecl, if_neg (show ¬ nI kd = -1 by
      intro e2
      have := nI_pos' (n := kd) (by omega)
      rw [e2] at this
      exact absurd this (by decide)), o_g_t]
    generalize hI19 : va_up I16 45 (va_up (I16 45) k (nI kd)) = I19
    have i19 : ∀ c, ¬ c = 45 → I19 c = I16 c := fun c hc => by rw [← hI19, up_ne hc]
    have i1945 : I19 45 = va_up (I 45) k (nI kd) := by rw [← hI19, up_eq, hC.1 45 (by decide) (by decide), i9 45 (by decide)]
    have hT19 : TX I19 T n := ⟨by rw [i19 43 (by decide), hC.2.1 3 (by decide) (by decide) (by decide)]; exact hT9.1, hn, fun j hj => ⟨hT3 j hj, by rw [i19 42 (by decide), hC.1 42 (by decide) (by decide)]; exact (hT9.2.2 j hj).2⟩⟩
    have hL19 : CL I19 n f I19 (.inr (q, f, N)) := ⟨hwl, Nat.le_refl _, by omega, fun _ _ _ => rfl, fun _ _ _ _ => rfl, by rw [i19 43 (by decide)]; exact hC.2.2.1, by rw [i19 43 (by decide)]; exact hC.2.2.2.1, by rw [i19 43 (by decide)]; exact hC.2.2.2.2.1, fun j hj => by rw [i19 47 (by decide)]; exact hC.2.2.2.2.2 j hj⟩
    refine wp_b1 (wp_mono (c_11 (T := T) hkd hT19 hL19) ?_)
    intro I38 hL38
    rw [i_add, o_b1_s, up_eq, up_eq, g_46 (by omega), o_g_t, i_cl (by omega), o_b1_s, o_g_t, up_ne (show ¬ 46 = 43 by decide), up_ne (show ¬ (8:Nat) = 0 by decide)]
    obtain ⟨f1, hf1, hf1', e38, hN1⟩ := CL_8 hL38
    have hf100 := hf1' hn
    -- the memory after the head
    generalize hI60 : va_up (va_up I38 43 (va_up (I38 43) 0 (nI (k + 1)))) 46 (va_up (I38 46) (k + 1) (I38 43 8)) = I60
    generalize hJ : va_up (va_up I19 43 (va_up (I19 43) 0 (nI (k + 1)))) 46 (va_up (I19 46) (k + 1) (nI f1)) = J
    have a60 : ∀ c, ¬ c = 43 → ¬ c = 46 → I60 c = I38 c := fun c c1 c2 => by rw [← hI60, up_ne c2, up_ne c1]
    have aJ : ∀ c, ¬ c = 43 → ¬ c = 46 → J c = I19 c := fun c c1 c2 => by rw [← hJ, up_ne c2, up_ne c1]
    have b60 : I60 43 = va_up (I38 43) 0 (nI (k + 1)) := by rw [← hI60, up_ne (by decide), up_eq]
    have bJ : J 43 = va_up (I19 43) 0 (nI (k + 1)) := by rw [← hJ, up_ne (by decide), up_eq]
    have d60 : I60 46 = va_up (I38 46) (k + 1) (nI f1) := by rw [← hI60, up_eq, e38]
    have dJ : J 46 = va_up (I19 46) (k + 1) (nI f1) := by rw [← hJ, up_eq]
    have hL : CL J n f I60 (hdp T n kd (.inr (q, f, N))) := CL_f hL38 (fun c c1 c2 e => by
      by_cases c3 : c = 46
      · rw [c3] at e ⊢
        rw [d60, dJ, e]
      · rw [a60 c c1 c3, aJ c c1 c3, e]) (fun j j1 j2 j3 e => by
      by_cases c3 : j = 0
      · rw [c3, b60, bJ, up_eq, up_eq]
      · rw [b60, bJ, up_ne c3, up_ne c3, e]) (fun j hj => by rw [b60, up_ne (by omega)]) (a60 47 (by decide) (by decide))
    have hTJ : TX J T n := ⟨by rw [bJ, up_ne (by decide)]; exact hT19.1, hn, fun j hj => ⟨hT3 j hj, by rw [aJ 42 (by decide) (by decide)]; exact (hT19.2.2 j hj).2⟩⟩
    have hJ0 : J 43 0 = nI (k + 1) := by rw [bJ, up_eq]
    have hJ45 : J 45 k = nI kd := by rw [aJ 45 (by decide) (by decide), i1945, up_eq]
    have hJ46 : J 46 k = nI f := by rw [dJ, up_ne (by omega), i19 46 (by decide), hC.1 46 (by decide) (by decide), i946, up_eq]
    have hF : CFr I J k := ⟨fun c c1 c2 c3 c4 => by rw [aJ c c1 c3, i19 c c2, hC.1 c c1 c4, i9 c c3], fun j j1 j2 j3 j4 => by rw [bJ, up_ne j1, i19 43 (by decide), hC.2.1 j j2 j3 j4, i9 43 (by decide)], fun j hj => by rw [aJ 45 (by decide) (by decide), i1945, up_ne hj], fun j hj hj2 => by rw [dJ, up_ne hj2, i19 46 (by decide), hC.1 46 (by decide) (by decide), i946, up_ne hj]⟩
    have fin : ∀ K s, CL J n f K s → wp (m_7_j146 43 (Rc 42) (Gc L) K) (fun M => CCl T n k f kd I M s) := fun K s hK => c_7j hk (by omega) hTJ hK hF hJ0 hJ45 hJ46
    -- what stays in it
    have h60a : I60 45 k = nI kd := by rw [a60 45 (by decide) (by decide), (CL_fr hL38).1 45 (by decide) (by decide), i1945, up_eq]
    have h60b : I60 46 k = nI f := by rw [d60, up_ne (by omega), (CL_fr hL38).1 46 (by decide) (by decide), i19 46 (by decide), hC.1 46 (by decide) (by decide), i946, up_eq]
    have h60c : I60 43 0 = nI (k + 1) := by rw [b60, up_eq]
    have h60d : I60 46 (k + 1) = nI f1 := by rw [d60, up_eq]
    have num : ∀ i, i < 1000 → m_4 43 (nI k) (nI i) I60 (Rc 42) (Gc L) = some (if i < f1 - f then I60 47 (f + i) else nI 0) := fun i hi => c_4 (h := k + 1) (by omega) (by omega) hf1 hf100 hi h60c h60b h60d
    rw [h60a, num 1 (by decide), num 2 (by decide)]
    simp only [o_g_t, o_b1_s]
    by_cases c2 : kd = 2
    · subst c2
      rw [if_pos rfl]
      cases hs : hdp T n 2 (.inr (q, f, N)) with
      | inl e =>
        rw [hs] at hL
        refine wp_b1 (wp_mono (c_12e hL) ?_)
        intro K hK
        exact fin K _ hK
      | inr y =>
        obtain ⟨p9, f9, N9, q9, k9, a, b, e5, rfl, u1, u2, u3, u4, u5, u6, u7⟩ := rr_s (show rr T n (.inr (q, f, N)) = .inr y from hs)
        cases e5
        rw [hs] at hL
        obtain ⟨g1, g2⟩ := hN1 _ _ _ hs
        subst g1
        have v1 : I60 47 (f + 1) = nI a := by rw [a60 47 (by decide) (by decide), g2 _ (by omega), up_ne (by omega), up_eq]
        have v2 : I60 47 (f + 2) = nI b := by rw [a60 47 (by decide) (by decide), g2 _ (by omega), up_eq]
        have w1 : va_up (va_up (va_up N f (nI k9)) (f + 1) (nI a)) (f + 2) (nI b) (f + 1) = nI a := by rw [up_ne (by omega), up_eq]
        have w2 : va_up (va_up (va_up N f (nI k9)) (f + 1) (nI a)) (f + 2) (nI b) (f + 2) = nI b := by rw [up_eq]
        rw [if_pos (show 1 < f + 3 - f by omega), if_pos (show 2 < f + 3 - f by omega), v1, v2]
        unfold bdp
        dsimp only
        rw [if_pos rfl, w1, w2, i_cl (by omega), i_cl (by omega), i_mul]
        refine wp_b1 (wp_mono (c_12 (m := a * b) (by
          have := Nat.mul_le_mul u3 (show b ≤ 7 by omega)
          omega) hTJ hL) ?_)
        intro K hK
        exact fin K _ hK
    · rw [if_neg (show ¬ nI kd = nI 2 by rw [i_eq (by omega) (by decide)]; exact c2)]
      by_cases c3 : kd = 3
      · subst c3
        rw [if_pos rfl]
        cases hs : hdp T n 3 (.inr (q, f, N)) with
        | inl e =>
          rw [hs] at hL
          refine wp_b1 (wp_mono (c_13e hL) ?_)
          intro K hK
          exact fin K _ hK
        | inr y =>
          obtain ⟨p9, f9, N9, q9, k9, a, b, e5, rfl, u1, u2, u3, u4, u5, u6, u7⟩ := gg_s (show gg T n (.inr (q, f, N)) = .inr y from hs)
          cases e5
          rw [hs] at hL
          obtain ⟨g1, g2⟩ := hN1 _ _ _ hs
          subst g1
          have v1 : I60 47 (f + 1) = nI a := by rw [a60 47 (by decide) (by decide), g2 _ (by omega), up_ne (by omega), up_eq]
          have v2 : I60 47 (f + 2) = nI b := by rw [a60 47 (by decide) (by decide), g2 _ (by omega), up_eq]
          have w1 : va_up (va_up (va_up N f (nI k9)) (f + 1) (nI a)) (f + 2) (nI b) (f + 1) = nI a := by rw [up_ne (by omega), up_eq]
          have w2 : va_up (va_up (va_up N f (nI k9)) (f + 1) (nI a)) (f + 2) (nI b) (f + 2) = nI b := by rw [up_eq]
          rw [if_pos (show 1 < f + 3 - f by omega), if_pos (show 2 < f + 3 - f by omega), v1, v2]
          unfold bdp
          dsimp only
          rw [if_neg (show ¬ (3:Nat) = 2 by decide), if_pos rfl, w1, w2, i_cl (by omega)]
          refine wp_b1 (wp_mono (c_13 (m := a) (hi := nI b - nI 1) (by omega) hTJ hL rfl) ?_)
          intro K hK
          exact fin K _ hK
      · rw [if_neg (show ¬ nI kd = nI 3 by rw [i_eq (by omega) (by decide)]; exact c3)]
        by_cases c4 : kd = 4
        · subst c4
          rw [if_pos rfl]
          cases hs : hdp T n 4 (.inr (q, f, N)) with
          | inl e =>
            rw [hs] at hL
            refine wp_b1 (wp_mono (c_14f hL) ?_)
            intro K hK
            exact fin K _ hK
          | inr y =>
            obtain ⟨p9, f9, N9, q9, k9, a, b, e5, rfl, u1, u2, u3, u4, u5, u6, u7⟩ := rr_s (show rr T n (.inr (q, f, N)) = .inr y from hs)
            cases e5
            rw [hs] at hL
            obtain ⟨g1, g2⟩ := hN1 _ _ _ hs
            subst g1
            have v1 : I60 47 (f + 1) = nI a := by rw [a60 47 (by decide) (by decide), g2 _ (by omega), up_ne (by omega), up_eq]
            have v2 : I60 47 (f + 2) = nI b := by rw [a60 47 (by decide) (by decide), g2 _ (by omega), up_eq]
            have w1 : va_up (va_up (va_up N f (nI k9)) (f + 1) (nI a)) (f + 2) (nI b) (f + 1) = nI a := by rw [up_ne (by omega), up_eq]
            have w2 : va_up (va_up (va_up N f (nI k9)) (f + 1) (nI a)) (f + 2) (nI b) (f + 2) = nI b := by rw [up_eq]
            rw [if_pos (show 1 < f + 3 - f by omega), if_pos (show 2 < f + 3 - f by omega), v1, v2]
            unfold bdp
            dsimp only
            rw [if_neg (show ¬ (4:Nat) = 2 by decide), if_neg (show ¬ (4:Nat) = 3 by decide), if_pos rfl, w1, w2, i_cl (by omega), i_cl (by omega)]
            generalize hM : (100:Nat) = M
            refine wp_b1 (wp_mono (c_14 (M := M) hM.symm (by omega) (by omega) hTJ hL) ?_)
            intro K hK
            exact fin K _ hK
        · rw [if_neg (show ¬ nI kd = nI 4 by rw [i_eq (by omega) (by decide)]; exact c4)]
          have e : bdp T n kd f (hdp T n kd (.inr (q, f, N))) = hdp T n kd (.inr (q, f, N)) := by
            cases hdp T n kd (.inr (q, f, N)) with
            | inl e => rfl
            | inr y =>
              unfold bdp
              dsimp only
              rw [if_neg c2, if_neg c3, if_neg c4]
          rw [e]
          exact fin I60 _ hL
  · have ecl : clp T n p f N = .inl (fa 1 p) := by
      unfold clp
      rw [hkd, if_neg (by decide)]
    rw [ecl, if_pos rfl, wp_s]
    refine ⟨fa_ne (by omega) (by decide) (by decide), ⟨fun c c1 c2 c3 c4 => by rw [up_ne c2, hC.1 c c1 c4, i9 c c3], fun j j1 j2 j3 j4 => by rw [up_ne (by decide), hC.2.1 j j2 j3 j4, i9 43 (by decide)], fun j hj => by rw [up_eq, up_ne hj, hC.1 45 (by decide) (by decide), i9 45 (by decide)], fun j hj hj2 => by rw [up_ne (by decide), hC.1 46 (by decide) (by decide), i946, up_ne hj]⟩, by rw [up_ne (by decide)]; exact hC.2.2.2.2.1, wend T n p, hwl, by rw [up_ne (by decide)]; exact hC.2.2.1⟩
