/-! Out of whole's part 79y.text, by wip/p46/extract.py. -/
/-- kinds, starts, place, how many numbers, which -/
abbrev MT := (Nat → Nat) × (Nat → Nat) × Nat × Nat × (Nat → Int32)
/-- a fault; ahead of a clause; done, with so many clauses -/
abbrev RT := Int32 ⊕ (MT ⊕ (Nat × MT))
noncomputable def nxt (T : Nat → Nat) (n i : Nat) : RT → RT
  | .inr (.inl (ks, st, p, f, N)) => match clp T n p f N with
    | .inl e => .inl e
    | .inr (q, f1, N1) => if q < n then (if T q = 59 then .inr (.inl (va_up ks i (kdw T p (wend T n p)), va_up st i f, q + 1, f1, N1)) else .inl (fa 1 q)) else .inr (.inr (i + 1, va_up ks i (kdw T p (wend T n p)), va_up st i f, q, f1, N1))
  | .inr (.inr d) => .inr (.inr d)
  | .inl e => .inl e
noncomputable def rsq (T : Nat → Nat) (n : Nat) : Nat → RT
  | 0 => .inr (.inl (fun _ => 0, fun _ => 0, 0, 0, fun _ => 0))
  | i + 1 => nxt T n i (rsq T n i)
theorem rsq_e {T : Nat → Nat} {n i : Nat} {e : Int32} (h : rsq T n i = .inl e) : ∀ m, rsq T n (i + m) = .inl e
  | 0 => h
  | m + 1 => by
    show nxt T n (i + m) (rsq T n (i + m)) = _
    rw [rsq_e h m]
    rfl
theorem rsq_d {T : Nat → Nat} {n i : Nat} {d : Nat × MT} (h : rsq T n i = .inr (.inr d)) : ∀ m, rsq T n (i + m) = .inr (.inr d)
  | 0 => h
  | m + 1 => by
    show nxt T n (i + m) (rsq T n (i + m)) = _
    rw [rsq_d h m]
    rfl
/-- what the reading of a text comes to -/
noncomputable def rtx (T : Nat → Nat) (n M : Nat) : Int32 ⊕ (Nat × MT) := match rsq T n M with
  | .inl e => .inl e
  | .inr (.inl (_, _, p, _, _)) => .inl (fa 4 p)
  | .inr (.inr d) => .inr d
def CFR (I K : ai_I) : Prop := ∀ c, ¬ c = 43 → ¬ c = 45 → ¬ c = 46 → ¬ c = 47 → K c = I c
def CRs (I K : ai_I) : Int32 ⊕ (Nat × MT) → Prop
  | .inl e => e ≠ 0 ∧ CFR I K ∧ K 43 1 = e
  | .inr (m, ks, st, _, f, N) => CFR I K ∧ K 43 1 = 0 ∧ K 43 0 = nI m ∧ m ≤ 16 ∧ (∀ k, k < m → K 45 k = nI (ks k) ∧ K 46 k = nI (st k)) ∧ K 46 m = nI f ∧ f ≤ 100 ∧ ∀ j, j < f → K 47 j = N j
/-- ahead of clause i -/
def CIn (I K : ai_I) (n i : Nat) : RT → Prop
  | .inl e => e ≠ 0 ∧ CFR I K ∧ K 43 1 = e ∧ K 43 3 = nI n ∧ ∃ q, q ≤ n ∧ K 43 4 = nI q
  | .inr (.inl (ks, st, p, f, N)) => CFR I K ∧ K 43 1 = 0 ∧ K 43 3 = nI n ∧ p ≤ n ∧ 2 * f ≤ p ∧ K 43 4 = nI p ∧ K 43 8 = nI f ∧ (i = 0 ∨ K 46 i = nI f) ∧ (∀ k, k < i → K 45 k = nI (ks k) ∧ K 46 k = nI (st k)) ∧ ∀ j, j < f → K 47 j = N j
  | .inr (.inr _) => False
theorem r2_eq {t : Nat} : va_up (Rc t) 43 (va_up (Rc t 43) 2 42) = Rc 42 := by
  funext a j
  by_cases c : a = 43
  · subst c
    rw [up_eq]
    by_cases d : j = 2
    · subst d
      rw [up_eq]
      rfl
    · rw [up_ne d]
      unfold Rc
      rw [if_neg (fun h => d h.2), if_neg (fun h => d h.2)]
  · rw [up_ne c]
    unfold Rc
    rw [if_neg (fun h => c h.1), if_neg (fun h => c h.1)]
theorem c_6' {K : ai_I} {n p : Nat} {L : ai_G} {T : Nat → Nat} (hn : n ≤ 200) (hp : p ≤ n) (hT : ∀ k, k < n → T k < 256 ∧ K 42 k = nI (T k)) (h3 : K 43 3 = nI n) (h4 : K 43 4 = nI p) : m_6 43 K (Rc 42) (Gc L) = some (sgI T n p) := by
  unfold m_6 sgI
  rw [h3, h4, r42_2]
  by_cases c : p < n
  · rw [if_neg (nI_ge c (by omega)), if_pos c, g_42 (by omega), o_g_t, i_cl (by omega), (hT p c).2]
  · rw [if_pos (nI_le (by omega) (by omega)), if_neg c]
theorem rtx_e {T : Nat → Nat} {n i M : Nat} {e : Int32} (hi : i ≤ M) (h : rsq T n i = .inl e) : rtx T n M = .inl e := by
  have := rsq_e h (M - i)
  rw [show i + (M - i) = M by omega] at this
  unfold rtx
  rw [this]
theorem rtx_d {T : Nat → Nat} {n i M : Nat} {d : Nat × MT} (hi : i ≤ M) (h : rsq T n i = .inr (.inr d)) : rtx T n M = .inr d := by
  have := rsq_d h (M - i)
  rw [show i + (M - i) = M by omega] at this
  unfold rtx
  rw [this]
theorem c_1 {I : ai_I} {t n : Nat} {L : ai_G} {T : Nat → Nat} {M : Nat} (hM : M = 16) (hn1 : 1 ≤ n) (hn : n ≤ 200) (hT : ∀ k, k < n → T k < 256 ∧ I 42 k = nI (T k)) : wp (m_1 43 42 (nI n) I (Rc t) (Gc L)) (fun r => r.2 = Rc 42 ∧ CRs I r.1 (rtx T n M)) := by
  have hT3 : ∀ k, k < n → T k < 256 := fun k hk => (hT k hk).1
  unfold m_1
  rw [o_b1_s, r2_eq, show o_al (Gc L) 42 = true from rfl, o_g_t, show (Gc L).2.1 42 = 240 from rfl, if_neg (show ¬ Int32.ofNat 240 < nI n from nI_nlt (by omega) (by decide))]
  simp only [o_b1_s]
  generalize hJ : va_up (va_up (va_up (va_up (va_up I 43 (va_up (I 43) 3 (nI n))) 43 (va_up (va_up I 43 (va_up (I 43) 3 (nI n)) 43) 4 (nI 0))) 43 (va_up (va_up (va_up I 43 (va_up (I 43) 3 (nI n))) 43 (va_up (va_up I 43 (va_up (I 43) 3 (nI n)) 43) 4 (nI 0)) 43) 0 (nI 0))) 43 (va_up (va_up (va_up (va_up I 43 (va_up (I 43) 3 (nI n))) 43 (va_up (va_up I 43 (va_up (I 43) 3 (nI n)) 43) 4 (nI 0))) 43 (va_up (va_up (va_up I 43 (va_up (I 43) 3 (nI n))) 43 (va_up (va_up I 43 (va_up (I 43) 3 (nI n)) 43) 4 (nI 0)) 43) 0 (nI 0)) 43) 8 (nI 0))) 43 (va_up (va_up (va_up (va_up (va_up I 43 (va_up (I 43) 3 (nI n))) 43 (va_up (va_up I 43 (va_up (I 43) 3 (nI n)) 43) 4 (nI 0))) 43 (va_up (va_up (va_up I 43 (va_up (I 43) 3 (nI n))) 43 (va_up (va_up I 43 (va_up (I 43) 3 (nI n)) 43) 4 (nI 0)) 43) 0 (nI 0))) 43 (va_up (va_up (va_up (va_up I 43 (va_up (I 43) 3 (nI n))) 43 (va_up (va_up I 43 (va_up (I 43) 3 (nI n)) 43) 4 (nI 0))) 43 (va_up (va_up (va_up I 43 (va_up (I 43) 3 (nI n))) 43 (va_up (va_up I 43 (va_up (I 43) 3 (nI n)) 43) 4 (nI 0)) 43) 0 (nI 0)) 43) 8 (nI 0)) 43) 1 (nI 0)) = J
  have j0 : ∀ c, ¬ c = 43 → J c = I c := fun c hc => by rw [← hJ, up_ne hc, up_ne hc, up_ne hc, up_ne hc, up_ne hc]
  have jj : J 43 = va_up (va_up (va_up (va_up (va_up (I 43) 3 (nI n)) 4 (nI 0)) 0 (nI 0)) 8 (nI 0)) 1 (nI 0) := by rw [← hJ]; simp only [up_eq]
  have fault : ∀ i K e, i ≤ M → rsq T n i = .inl e → e ≠ 0 → CFR I K → K 43 1 = e → wp (m_1_x37_80 43 (Rc 42) K) (fun r => r.2 = Rc 42 ∧ CRs I r.1 (rtx T n M)) := fun i K e hi hr he hF h1 => by
    unfold m_1_x37_80 m_5
    rw [h1, if_neg he, o_b1_s, wp_s, rtx_e hi hr]
    exact ⟨rfl, he, hF, h1⟩
  refine wp_s2 (wp_lp (fun i s => s.1 = nI i ∧ CIn I s.2 n i (rsq T n i)) 0 M (Nat.zero_le _) (by omega) ⟨rfl, fun c c1 _ _ _ => j0 c c1, by show J 43 1 = 0; rw [jj, up_eq]; rfl, by show J 43 3 = nI n; rw [jj, up_ne (by decide), up_ne (by decide), up_ne (by decide), up_ne (by decide), up_eq], Nat.zero_le _, Nat.le_refl _, by show J 43 4 = nI 0; rw [jj, up_ne (by decide), up_ne (by decide), up_ne (by decide), up_eq], by show J 43 8 = nI 0; rw [jj, up_ne (by decide), up_eq], Or.inl rfl, fun k hk => absurd hk (Nat.not_lt_zero _), fun j hj => absurd hj (Nat.not_lt_zero _)⟩ ?_ ?_)
  · rintro i ⟨a, K⟩ hi ⟨g1, g2⟩
    dsimp only at g1 g2
    subst g1
    unfold m_1_b37
    dsimp only
    rw [if_neg (nI_ge (show i < 16 by omega) (by omega))]
    have hnx : rsq T n (i + 1) = nxt T n i (rsq T n i) := rfl
    cases hs : rsq T n i with
    | inl e =>
      rw [hs] at g2
      obtain ⟨he, hF, h1, h3, q, hq, h4⟩ := g2
      rw [if_neg (show ¬ K 43 1 = 0 by rw [h1]; exact he), wp_s, lq_r, lq_r]
      exact fault i K e (by omega) hs he hF h1
    | inr y =>
      cases y with
      | inr d =>
        rw [hs] at g2
        exact g2.elim
      | inl y =>
        obtain ⟨ks, st, p, f, N⟩ := y
        rw [hs] at g2 hnx
        obtain ⟨hF, h1, h3, hp, hf, h4, h8, h46, hk, hN⟩ := g2
        have hTK : TX K T n := ⟨h3, hn, fun j hj => ⟨hT3 j hj, by rw [hF 42 (by decide) (by decide) (by decide) (by decide)]; exact (hT j hj).2⟩⟩
        rw [if_pos h1]
        refine wp_b1 (wp_mono (c_7 (k := i) (by omega) hTK hp hf h4 h8 h1 hN) ?_)
        intro K2 hK2
        have h42 : ∀ K2, CFr K K2 i → ∀ k, k < n → T k < 256 ∧ K2 42 k = nI (T k) := fun K2 hC k hk => ⟨hT3 k hk, by rw [hC.1 42 (by decide) (by decide) (by decide) (by decide)]; exact (hTK.2.2 k hk).2⟩
        have hFR : ∀ K2, CFr K K2 i → CFR I K2 := fun K2 hC c c1 c2 c3 c4 => (hC.1 c c1 c2 c3 c4).trans (hF c c1 c2 c3 c4)
        have h33 : ∀ K2, CFr K K2 i → K2 43 3 = nI n := fun K2 hC => by rw [hC.2.1 3 (by decide) (by decide) (by decide) (by decide)]; exact h3
        -- on from the end of the clause
        have on : ∀ q, q ≤ n → K2 43 4 = nI q → CFr K K2 i → (¬ q < n → CRs I K2 (rtx T n M)) → (q < n → CIn I (va_up K2 43 (va_up (K2 43) 4 (nI (q + 1)))) n (i + 1) (rsq T n (i + 1))) → wp (o_b1 (m_6 43 K2 (Rc 42) (Gc L)) (fun r_56 => if r_56 = (-1 : Int32) then (some (Sum.inr (Sum.inl K2))) else (some (Sum.inl (nI i + nI 1, va_up K2 43 (va_up (K2 43) 4 ((K2 43 4) + (nI 1)))))))) (lq (fun s => s.1 = nI (i + 1) ∧ CIn I s.2 n (i + 1) (rsq T n (i + 1))) (lq (fun t => wp (m_1_x37_63 (Rc 42) t) (fun r => r.2 = Rc 42 ∧ CRs I r.1 (rtx T n M))) (fun t => wp (m_1_x37_80 43 (Rc 42) t) (fun r => r.2 = Rc 42 ∧ CRs I r.1 (rtx T n M))))) := fun q hq hq4 hC k1 k2 => by
          rw [c_6' hn hq (h42 K2 hC) (h33 K2 hC) hq4, o_b1_s]
          by_cases c : q < n
          · rw [if_neg (fun h => (sg_end hT3).1 h c), hq4, i_add, i_add, wp_s, lq_l]
            exact ⟨rfl, k2 c⟩
          · rw [if_pos ((sg_end hT3).2 c), wp_s, lq_r, lq_l, m_1_x37_63, wp_s]
            exact ⟨rfl, k1 c⟩
        cases hcl : clp T n p f N with
        | inl e =>
          rw [hcl] at hK2
          obtain ⟨he, hC, h12, q, hq, hq4⟩ := hK2
          have hnx2 : rsq T n (i + 1) = .inl e := by
            rw [hnx]
            unfold nxt
            dsimp only
            rw [hcl]
          refine on q hq hq4 hC (fun _ => ?_) (fun c => ?_)
          · rw [rtx_e (by omega) hnx2]
            exact ⟨he, hFR K2 hC, h12⟩
          · rw [hnx2]
            exact ⟨he, fun c c1 c2 c3 c4 => by rw [up_ne c1]; exact hFR K2 hC c c1 c2 c3 c4, by rw [up_eq, up_ne (by decide)]; exact h12, by rw [up_eq, up_ne (by decide)]; exact h33 K2 hC, q + 1, by omega, by rw [up_eq, up_eq]⟩
        | inr y =>
          obtain ⟨q, f1, N1⟩ := y
          rw [hcl] at hK2
          obtain ⟨hC, hq, hff, hfq, k0, k45, k46, k46', k4, k8, k1, kN⟩ := hK2
          have old : ∀ k, k < i + 1 → K2 45 k = nI (va_up ks i (kdw T p (wend T n p)) k) ∧ K2 46 k = nI (va_up st i f k) := fun k hk' => by
            by_cases e : k = i
            · subst e
              rw [up_eq, up_eq]
              exact ⟨k45, k46⟩
            · rw [up_ne e, up_ne e, hC.2.2.1 k e, hC.2.2.2 k e (by omega)]
              exact hk k (by omega)
          refine on q hq k4 hC (fun c => ?_) (fun c => ?_)
          · have hnx2 : rsq T n (i + 1) = .inr (.inr (i + 1, va_up ks i (kdw T p (wend T n p)), va_up st i f, q, f1, N1)) := by
              rw [hnx]
              unfold nxt
              dsimp only
              rw [hcl]
              exact if_neg c
            rw [rtx_d (by omega) hnx2]
            rw [if_neg (fun h => c h.1)] at k1
            exact ⟨hFR K2 hC, k1, k0, by omega, old, k46', by omega, kN⟩
          · by_cases c2 : T q = 59
            · have hnx2 : rsq T n (i + 1) = .inr (.inl (va_up ks i (kdw T p (wend T n p)), va_up st i f, q + 1, f1, N1)) := by
                rw [hnx]
                unfold nxt
                dsimp only
                rw [hcl]
                dsimp only
                rw [if_pos c, if_pos c2]
              rw [hnx2]
              rw [if_neg (fun h => h.2 c2)] at k1
              exact ⟨fun c c1 c2 c3 c4 => by rw [up_ne c1]; exact hFR K2 hC c c1 c2 c3 c4, by rw [up_eq, up_ne (by decide)]; exact k1, by rw [up_eq, up_ne (by decide)]; exact h33 K2 hC, by omega, by omega, by rw [up_eq, up_eq], by rw [up_eq, up_ne (by decide)]; exact k8, Or.inr (by rw [up_ne (by decide)]; exact k46'), fun k hk' => by rw [up_ne (show ¬ 45 = 43 by decide), up_ne (show ¬ 46 = 43 by decide)]; exact old k hk', fun j hj => by rw [up_ne (by decide)]; exact kN j hj⟩
            · have hnx2 : rsq T n (i + 1) = .inl (fa 1 q) := by
                rw [hnx]
                unfold nxt
                dsimp only
                rw [hcl]
                dsimp only
                rw [if_pos c, if_neg c2]
              rw [hnx2]
              rw [if_pos ⟨c, c2⟩] at k1
              exact ⟨fa_ne (by omega) (by decide) (by decide), fun c c1 c2 c3 c4 => by rw [up_ne c1]; exact hFR K2 hC c c1 c2 c3 c4, by rw [up_eq, up_ne (by decide)]; exact k1, by rw [up_eq, up_ne (by decide)]; exact h33 K2 hC, q + 1, by omega, by rw [up_eq, up_eq]⟩
  · rintro ⟨a, K⟩ ⟨g1, g2⟩
    dsimp only at g1 g2
    subst g1
    unfold m_1_b37
    dsimp only
    rw [if_pos (show nI 16 ≤ nI M by rw [hM]; exact Int32.le_refl _), wp_s, lq_r, lq_r]
    cases hs : rsq T n M with
    | inl e =>
      rw [hs] at g2
      obtain ⟨he, hF, h1, h3, q, hq, h4⟩ := g2
      exact fault M K e (Nat.le_refl _) hs he hF h1
    | inr y =>
      cases y with
      | inr d =>
        rw [hs] at g2
        exact g2.elim
      | inl y =>
        obtain ⟨ks, st, p, f, N⟩ := y
        rw [hs] at g2
        obtain ⟨hF, h1, h3, hp, hf, h4, h8, h46, hk, hN⟩ := g2
        have hr : rtx T n M = .inl (fa 4 p) := by
          unfold rtx
          rw [hs]
        unfold m_1_x37_80 m_5
        rw [h1, if_pos rfl, o_b1_s, o_b1_s, wp_s, hr, h4]
        exact ⟨rfl, fa_ne (by omega) (by decide) (by decide), fun c c1 c2 c3 c4 => by dsimp only; rw [up_ne c1]; exact hF c c1 c2 c3 c4, by dsimp only; rw [up_eq, up_eq]; rfl⟩
