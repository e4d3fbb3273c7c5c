/-! Rows of the reference: the next row. -/
def RR (I : ai_I) (σ : Nat → Nat) : Prop := ∀ i, i < 8 → I 91 i = nI (σ i)
def D (n i : Nat) (σ : Nat → Nat) : Prop := ∀ a b, i ≤ a → a < b → b < n → σ b < σ a
theorem D_of {n i : Nat} {σ : Nat → Nat} (h : ∀ k, i ≤ k → k + 1 < n → σ (k + 1) < σ k) : D n i σ := fun a b h1 h2 h3 => by
  obtain ⟨m, rfl⟩ : ∃ m, b = a + 1 + m := ⟨b - (a + 1), by omega⟩
  clear h2
  induction m with
  | zero => exact h a h1 h3
  | succ m ih =>
    have h4 := h (a + 1 + m) (by omega) (by omega)
    have h5 := ih (by omega)
    rw [show a + 1 + (m + 1) = a + 1 + m + 1 by omega]
    omega
/-- what comes from a place on, comes from there on in the other too -/
theorem PM_from {n d : Nat} {σ ρ : Nat → Nat} (hn : n ≤ 8) (hσ : PM n σ) (hρ : PM n ρ) (hd : d < n) (he : ∀ i, i < d → σ i = ρ i) : ∃ k, d ≤ k ∧ k < n ∧ σ k = ρ d := by
  obtain ⟨k, k1, k2⟩ := PM_hit hσ (hρ.1 d (by omega))
  refine ⟨k, ?_, ?_, k2⟩
  · apply Nat.le_of_not_lt
    intro h
    rw [he k h] at k2
    have := hρ.2.1 k d (by omega) (by omega) k2
    omega
  · apply Nat.lt_of_not_le
    intro h
    rw [hσ.2.2 k h k1] at k2
    have := PM_lt hρ hn hd
    omega
theorem lx_n {n : Nat} {σ ρ : Nat → Nat} (hσ : PM n σ) (hρ : PM n ρ) (h : cd σ < cd ρ) : ∃ d, d < n ∧ (∀ i, i < d → σ i = ρ i) ∧ σ d < ρ d := by
  obtain ⟨d, d1, d2, d3⟩ := cd_lx hσ.1 hρ.1 h
  refine ⟨d, ?_, d2, d3⟩
  apply Nat.lt_of_not_le
  intro h2
  rw [hσ.2.2 d h2 d1, hρ.2.2 d h2 d1] at d3
  omega
theorem no_d {n d : Nat} {σ ρ : Nat → Nat} (hn : n ≤ 8) (hσ : PM n σ) (hρ : PM n ρ) (hd : d < n) (he : ∀ i, i < d → σ i = ρ i) (h : σ d < ρ d) (hD : D n d σ) : False := by
  obtain ⟨k, k1, k2, k3⟩ := PM_from hn hσ hρ hd he
  by_cases c : k = d
  · rw [c] at k3
    omega
  · have := hD d k (Nat.le_refl _) (by omega) k2
    omega
theorem last {n : Nat} {σ ρ : Nat → Nat} (hn : n ≤ 8) (hσ : PM n σ) (hD : D n 0 σ) (hρ : PM n ρ) : cd ρ ≤ cd σ := Nat.le_of_not_lt (fun h => by
  obtain ⟨d, d1, d2, d3⟩ := lx_n hσ hρ h
  exact no_d hn hσ hρ d1 d2 d3 (fun a b h1 h2 h3 => hD a b (Nat.zero_le _) h2 h3))
/-- the places that the next row takes its elements from -/
def pj (n i j k : Nat) : Nat := if k < i then k else if k = i then j else if k < n then (if n + i - k = j then i else n + i - k) else k
theorem pj_lo {n i j k : Nat} (h : k < i) : pj n i j k = k := if_pos h
theorem pj_i {n i j : Nat} : pj n i j i = j := by
  unfold pj
  rw [if_neg (Nat.lt_irrefl _), if_pos rfl]
theorem pj_hi {n i j k : Nat} (h : i < k) (h2 : k < n) : pj n i j k = if n + i - k = j then i else n + i - k := by
  unfold pj
  rw [if_neg (by omega), if_neg (by omega), if_pos h2]
theorem pj_n {n i j k : Nat} (h : i < n) (h2 : n ≤ k) : pj n i j k = k := by
  unfold pj
  rw [if_neg (by omega), if_neg (by omega), if_neg (by omega)]
theorem pj_PM {n i j : Nat} (hn : n ≤ 8) (h1 : i < j) (h2 : j < n) : PM n (pj n i j) := by
  refine ⟨fun k hk => ?_, fun a b ha hb e => ?_, fun k h3 h4 => pj_n (by omega) h3⟩
  · unfold pj
    split
    · omega
    · split
      · omega
      · split
        · split
          · omega
          · omega
        · omega
  · unfold pj at e
    split at e
    · split at e
      · exact e
      · split at e
        · omega
        · split at e
          · split at e
            · omega
            · omega
          · omega
    · split at e
      · split at e
        · omega
        · split at e
          · omega
          · split at e
            · split at e
              · omega
              · omega
            · omega
      · split at e
        · split at e
          · split at e
            · omega
            · split at e
              · omega
              · split at e
                · split at e
                  · omega
                  · omega
                · omega
          · split at e
            · omega
            · split at e
              · omega
              · split at e
                · split at e
                  · omega
                  · omega
                · omega
        · split at e
          · omega
          · split at e
            · omega
            · split at e
              · split at e
                · omega
                · omega
              · omega
theorem next_ok {n i j : Nat} {σ : Nat → Nat} (hn : n ≤ 8) (hσ : PM n σ) (hD : D n (i + 1) σ) (h1 : i < j) (h2 : j < n) (h3 : σ i < σ j) (h4 : ∀ b, j < b → b < n → σ b < σ i) : PM n (fun k => σ (pj n i j k)) ∧ cd σ < cd (fun k => σ (pj n i j k)) ∧ ∀ ρ, PM n ρ → cd σ < cd ρ → cd (fun k => σ (pj n i j k)) ≤ cd ρ := by
  have hP := PM_comp (σ := pj n i j) (τ := σ) (pj_PM hn h1 h2) hσ
  have lo : ∀ k, k < i → σ (pj n i j k) = σ k := fun k hk => by rw [pj_lo hk]
  have up : ∀ a b, i < a → a < b → b < n → σ (pj n i j a) < σ (pj n i j b) := fun a b g1 g2 g3 => by
    rw [pj_hi g1 (by omega), pj_hi (by omega) g3]
    by_cases c1 : n + i - a = j
    · rw [if_pos c1, if_neg (by omega)]
      have := hD (n + i - b) j (by omega) (by omega) (by omega)
      omega
    · rw [if_neg c1]
      by_cases c2 : n + i - b = j
      · rw [if_pos c2]
        exact h4 _ (by omega) (by omega)
      · rw [if_neg c2]
        exact hD _ _ (by omega) (by omega) (by omega)
  refine ⟨hP, lx_cd hσ.1 (show i < 8 by omega) (fun k hk => (lo k hk).symm) (by show σ i < σ (pj n i j i); rw [pj_i]; exact h3), fun ρ hρ h => ?_⟩
  obtain ⟨d, d1, d2, d3⟩ := lx_n hσ hρ h
  by_cases c1 : d < i
  · exact Nat.le_of_lt (lx_cd hP.1 (show d < 8 by omega) (fun k hk => (lo k (by omega)).trans (d2 k hk)) (by show σ (pj n i j d) < _; rw [lo d c1]; exact d3))
  · by_cases c2 : d = i
    · subst c2
      obtain ⟨k, k1, k2, k3⟩ := PM_from hn hσ hρ d1 d2
      have k4 : d < k := by
        by_cases c : k = d
        · rw [c] at k3
          omega
        · omega
      have k5 : k ≤ j := Nat.le_of_not_lt (fun g => by
        have := h4 k g k2
        omega)
      by_cases c3 : k = j
      · subst c3
        rcases fst_df (σ := fun m => σ (pj n d k m)) (τ := ρ) 8 with e | ⟨e, e1, e2, e3⟩
        · exact Nat.le_of_eq (cdk_cong 8 e)
        · have f1 : d < e := by
            apply Nat.lt_of_not_le
            intro g
            by_cases c4 : e = d
            · rw [c4] at e3
              exact e3 (by show σ (pj n d k d) = _; rw [pj_i]; exact k3)
            · exact e3 ((lo e (by omega)).trans (d2 e (by omega)))
          have f2 : e < n := by
            apply Nat.lt_of_not_le
            intro g
            exact e3 ((hP.2.2 e g e1).trans (hρ.2.2 e g e1).symm)
          obtain ⟨m, m1, m2, m3⟩ := PM_from hn hP hρ f2 e2
          by_cases c4 : m = e
          · rw [c4] at m3
            exact absurd m3 e3
          · have f3 := up e m f1 (by omega) m2
            exact Nat.le_of_lt (lx_cd hP.1 e1 e2 (by show σ (pj n d k e) < _; omega))
      · refine Nat.le_of_lt (lx_cd hP.1 (show d < 8 by omega) (fun k hk => (lo k hk).trans (d2 k hk)) ?_)
        show σ (pj n d j d) < _
        rw [pj_i, ← k3]
        exact hD k j (by omega) (by omega) h2
    · exact absurd (no_d hn hσ hρ d1 d2 d3 (fun a b g1 g2 g3 => hD a b (by omega) g2 g3)) (fun h => h)
theorem s_312 {I : ai_I} {t L a b : Nat} (ha : a < 8) (hb : b < 8) : m_312 75 (nI a) (nI b) I (Rc t) (Gc L) = some (va_up (va_up I 91 (va_up (I 91) a (I 91 b))) 91 (va_up ((va_up I 91 (va_up (I 91) a (I 91 b))) 91) b (I 91 a))) := by
  unfold m_312
  rw [r_75_31, g_91 ha, o_g_t, i_cl (by omega), o_b1_s, g_91 hb, o_g_t, o_g_t, i_cl (by omega), o_b1_s, o_g_t, o_b1_s]
def sw (σ : Nat → Nat) (a b k : Nat) : Nat := if k = b then σ a else if k = a then σ b else σ k
theorem s_312' {I : ai_I} {t L a b : Nat} {σ : Nat → Nat} (ha : a < 8) (hb : b < 8) (h : RR I σ) : wp (m_312 75 (nI a) (nI b) I (Rc t) (Gc L)) (fun M => RR M (sw σ a b) ∧ ot I M 91) := by
  rw [s_312 ha hb, wp_s]
  refine ⟨fun k hk => ?_, fun c hc => by rw [up_ne hc, up_ne hc]⟩
  unfold sw
  rw [up_eq]
  by_cases c1 : k = b
  · rw [if_pos c1, c1, up_eq]
    exact h a ha
  · rw [if_neg c1, up_ne c1, up_eq]
    by_cases c2 : k = a
    · rw [if_pos c2, c2, up_eq]
      exact h b hb
    · rw [if_neg c2, up_ne c2]
      exact h k hk
/-- a turned end, halfway -/
def rv (n i m : Nat) (σ : Nat → Nat) (k : Nat) : Nat := if i < k ∧ k < n ∧ (k < i + 1 + m ∨ n - 1 - m < k) then σ (n + i - k) else σ k
theorem s_311 {I : ai_I} {t L n : Nat} {σ : Nat → Nat} (h2n : 2 ≤ n) (hn : n ≤ 8) (hσ : PM n σ) (hR : RR I σ) : wp (m_311 75 (nI n) I (Rc t) (Gc L)) (fun q => ot I q.2 91 ∧ ((q.1 = nI 0 ∧ ∀ ρ, PM n ρ → cd ρ ≤ cd σ) ∨ (q.1 = nI 1 ∧ ∃ τ, PM n τ ∧ cd σ < cd τ ∧ (∀ ρ, PM n ρ → cd σ < cd ρ → cd τ ≤ cd ρ) ∧ RR q.2 τ))) := by
  have hb : ∀ k, k < 8 → σ k < 8 := hσ.1
  unfold m_311
  rw [i_sub (by omega), o_b1_s]
  refine wp_s1 (wp_lp (fun m s => (m ≤ n - 2 ∧ s = nI (n - 2 - m) ∨ m = n - 1 ∧ s = -1) ∧ ∀ k, n - 2 < k + m → k + 1 < n → σ (k + 1) < σ k) 0 (n - 1) (Nat.zero_le _) (by omega) ⟨Or.inl ⟨Nat.zero_le _, rfl⟩, fun k h1 h2 => by omega⟩ ?_ ?_)
  · rintro m s hm ⟨h1, h2⟩
    rcases h1 with ⟨h1, rfl⟩ | ⟨h1, -⟩
    · generalize hx : n - 2 - m = x
      have hx1 : x + 1 < n := by omega
      have g1 := hb x (by omega)
      have g2 := hb (x + 1) (by omega)
      unfold m_311_b4
      rw [if_neg (nI_pos (by omega)), i_add, r_75_31, g_91 (by omega), o_g_t, g_91 (by omega), o_g_t, i_cl (by omega), i_cl (by omega), hR x (by omega), hR (x + 1) (by omega)]
      by_cases c : σ x ≤ σ (x + 1)
      · rw [if_pos (nI_le c (by omega)), wp_s, lq_r]
        have c2 : σ x < σ (x + 1) := by
          have : ¬ σ x = σ (x + 1) := fun e => by
            have := hσ.2.1 x (x + 1) (by omega) (by omega) e
            omega
          omega
        have hD : D n (x + 1) σ := D_of (fun k k1 k2 => h2 k (by omega) k2)
        unfold m_311_x4_32
        rw [if_pos (nI_pos' (by omega)), i_sub (by omega), o_b1_s]
        refine wp_s1 (wp_lp (fun m s => x + m + 1 < n ∧ s = nI (n - 1 - m) ∧ ∀ b, n - 1 < b + m → b < n → σ b < σ x) 0 (n - x - 2) (Nat.zero_le _) (by omega) ⟨by omega, rfl, fun b b1 b2 => by omega⟩ ?_ ?_)
        all_goals
          have out : ∀ y, x < y → y < n → σ x < σ y → (∀ b, y < b → b < n → σ b < σ x) → wp (m_311_x42_64 75 (nI n) I (Rc t) (Gc L) (nI x) (nI y)) (fun q => ot I q.2 91 ∧ ((q.1 = nI 0 ∧ ∀ ρ, PM n ρ → cd ρ ≤ cd σ) ∨ (q.1 = nI 1 ∧ ∃ τ, PM n τ ∧ cd σ < cd τ ∧ (∀ ρ, PM n ρ → cd σ < cd ρ → cd τ ≤ cd ρ) ∧ RR q.2 τ))) := by
            intro y y1 y2 y3 y4
            obtain ⟨k1, k2, k3⟩ := next_ok hn hσ hD y1 y2 y3 y4
            unfold m_311_x42_64
            refine wp_b1 (wp_mono (s_312' (t := t) (L := L) (show x < 8 by omega) (show y < 8 by omega) hR) ?_)
            rintro M ⟨f1, f2⟩
            rw [i_add, o_b1_s, i_sub (by omega), o_b1_s]
            refine wp_s1 (wp_lp (fun m s => m ≤ n - 1 ∧ s.1 = nI (x + 1 + m) ∧ s.2.1 = nI (n - 1 - m) ∧ RR s.2.2 (rv n x m (sw σ x y)) ∧ ot I s.2.2 91 ∧ (m = 0 ∨ x + m < n - m)) 0 8 (Nat.zero_le _) (by omega) ⟨Nat.zero_le _, rfl, rfl, fun k hk => ?_, f2, Or.inl rfl⟩ ?_ ?_)
            · unfold rv
              rw [if_neg (by omega)]
              exact f1 k hk
            · rintro m ⟨s1, s2, K⟩ hm ⟨g1, g2, g3, g4, g5, g6⟩
              dsimp only at g2 g3 g4 g5 g6
              subst g2 g3
              unfold m_311_b80
              dsimp only
              by_cases c5 : n - 1 - m ≤ x + 1 + m
              · rw [if_pos (nI_le c5 (by omega)), wp_s, lq_r]
                refine ⟨(nI 1, K), rfl, g5, Or.inr ⟨rfl, _, k1, k2, k3, fun k hk => ?_⟩⟩
                dsimp only
                rw [g4 k hk]
                unfold rv sw
                by_cases e1 : k < x
                · rw [if_neg (by omega), if_neg (by omega), if_neg (by omega), pj_lo e1]
                · by_cases e2 : k = x
                  · subst e2
                    rw [if_neg (by omega), if_neg (by omega), if_pos rfl, pj_i]
                  · by_cases e3 : k < n
                    · rw [pj_hi (by omega) e3]
                      have e4 : (if x < k ∧ k < n ∧ (k < x + 1 + m ∨ n - 1 - m < k) then (if n + x - k = y then σ x else if n + x - k = x then σ y else σ (n + x - k)) else (if k = y then σ x else if k = x then σ y else σ k)) = (if n + x - k = y then σ x else σ (n + x - k)) := by
                        by_cases c6 : k < x + 1 + m ∨ n - 1 - m < k
                        · rw [if_pos ⟨by omega, e3, c6⟩]
                          by_cases c7 : n + x - k = y
                          · rw [if_pos c7, if_pos c7]
                          · rw [if_neg c7, if_neg c7, if_neg (by omega)]
                        · rw [if_neg (fun h => c6 h.2.2), show n + x - k = k by omega]
                          by_cases c7 : k = y
                          · rw [if_pos c7, if_pos c7]
                          · rw [if_neg c7, if_neg c7, if_neg (by omega)]
                      rw [e4]
                      by_cases c7 : n + x - k = y
                      · rw [if_pos c7, if_pos c7]
                      · rw [if_neg c7, if_neg c7]
                    · rw [pj_n (by omega) (by omega), if_neg (by omega), if_neg (by omega), if_neg (by omega)]
              · rw [if_neg (nI_ge (by omega) (by omega))]
                refine wp_b1 (wp_mono (s_312' (t := t) (L := L) (show x + 1 + m < 8 by omega) (show n - 1 - m < 8 by omega) g4) ?_)
                rintro N ⟨p1, p2⟩
                rw [i_add, o_b1_s, i_sub (by omega), o_b1_s, wp_s, lq_l]
                refine ⟨by omega, rfl, by dsimp only; rw [show n - 1 - m - 1 = n - 1 - (m + 1) by omega], fun k hk => ?_, fun c hc => (p2 c hc).trans (g5 c hc), Or.inr (by omega)⟩
                dsimp only
                rw [p1 k hk]
                generalize sw σ x y = ψ
                unfold sw rv
                by_cases c1 : k = n - 1 - m
                · rw [if_pos c1, if_neg (by omega), if_pos (by omega), show n + x - k = x + 1 + m by omega]
                · rw [if_neg c1]
                  by_cases c2 : k = x + 1 + m
                  · rw [if_pos c2, if_neg (by omega), if_pos (by omega), show n + x - k = n - 1 - m by omega]
                  · rw [if_neg c2]
                    by_cases c3 : x < k ∧ k < n ∧ (k < x + 1 + m ∨ n - 1 - m < k)
                    · rw [if_pos c3, if_pos (by omega)]
                    · rw [if_neg c3, if_neg (by omega)]
            · rintro ⟨s1, s2, K⟩ ⟨g1, -⟩
              omega
        · rintro m s hm2 ⟨h3, rfl, h4⟩
          have g3 := hb (n - 1 - m) (by omega)
          unfold m_311_b42
          rw [r_75_31, g_91 (by omega), o_g_t, g_91 (by omega), o_g_t, i_cl (by omega), i_cl (by omega), hR x (by omega), hR (n - 1 - m) (by omega)]
          by_cases c3 : σ x ≤ σ (n - 1 - m)
          · rw [if_pos (nI_le c3 (by omega)), wp_s, lq_r]
            refine out (n - 1 - m) (by omega) (by omega) ?_ (fun b b1 b2 => h4 b (by omega) b2)
            have : ¬ σ x = σ (n - 1 - m) := fun e => by
              have := hσ.2.1 x (n - 1 - m) (by omega) (by omega) e
              omega
            omega
          · rw [if_neg (nI_ge (by omega) (by omega)), i_sub (by omega), o_b1_s, wp_s, lq_l]
            refine ⟨by omega, by rw [show n - 1 - m - 1 = n - 1 - (m + 1) by omega], fun b b1 b2 => ?_⟩
            by_cases e : b = n - 1 - m
            · rw [e]
              omega
            · exact h4 b (by omega) b2
        · rintro s ⟨h3, rfl, h4⟩
          have e : n - 1 - (n - x - 2) = x + 1 := by omega
          rw [e]
          unfold m_311_b42
          rw [r_75_31, g_91 (by omega), o_g_t, g_91 (by omega), o_g_t, i_cl (by omega), i_cl (by omega), hR x (by omega), hR (x + 1) (by omega), if_pos (nI_le c (by omega)), wp_s, lq_r]
          exact out (x + 1) (by omega) (by omega) c2 (fun b b1 b2 => h4 b (by omega) b2)
      · rw [if_neg (nI_ge (by omega) (by omega))]
        have hk : ∀ k, n - 2 < k + (m + 1) → k + 1 < n → σ (k + 1) < σ k := fun k k1 k2 => by
          by_cases e : k = x
          · rw [e]
            omega
          · exact h2 k (by omega) k2
        by_cases c2 : x = 0
        · subst c2
          rw [show nI 0 - nI 1 = -1 by decide, o_b1_s, wp_s, lq_l]
          exact ⟨Or.inr ⟨by omega, rfl⟩, hk⟩
        · rw [i_sub (by omega), o_b1_s, wp_s, lq_l]
          exact ⟨Or.inl ⟨by omega, by rw [show n - 2 - (m + 1) = x - 1 by omega]⟩, hk⟩
    · omega
  · rintro s ⟨h1, h2⟩
    rcases h1 with ⟨h1, -⟩ | ⟨-, rfl⟩
    · omega
    · unfold m_311_b4
      rw [if_pos (by decide), wp_s, lq_r]
      unfold m_311_x4_32
      rw [if_neg (by decide), wp_s]
      exact ⟨fun _ _ => rfl, Or.inl ⟨rfl, fun ρ hρ => last hn hσ (D_of (fun k _ k2 => h2 k (by omega) k2)) hρ⟩⟩
