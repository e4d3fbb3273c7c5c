/-! Call onto. -/
theorem s_313 {I : ai_I} {t L b : Nat} {σ : Nat → Nat} (hb : b < 256) (hσ : ∀ i, i < 8 → σ i < 8) (hR : RR I σ) : m_313 75 (nI b) I (Rc t) (Gc L) = some (nI (im σ b 8)) := by
  have hw : wp (m_313 75 (nI b) I (Rc t) (Gc L)) (fun q => q = nI (im σ b 8)) := by
    unfold m_313
    refine wp_s1 (wp_lp (fun k s => s = (nI (im σ b k), nI k)) 0 8 (Nat.zero_le _) (by omega) rfl ?_ ?_)
    · rintro k s hk rfl
      have hsk := hσ k hk
      unfold m_313_b4
      dsimp only
      rw [if_neg (nI_ge hk (by decide)), s_192 hb (by omega), o_b1_s, q_bz]
      by_cases c : b.testBit k = true
      · rw [if_pos c, r_75_31, g_91 hk, o_g_t, i_cl (by omega), hR k hk, i_shl (by decide) (by omega), Nat.one_mul, i_or, o_b1_s, i_add, o_b1_s, wp_s, lq_l]
        show _ = (nI (if b.testBit k = true then _ else _), _)
        rw [if_pos c]
      · rw [if_neg c, i_add, o_b1_s, wp_s, lq_l]
        show _ = (nI (if b.testBit k = true then _ else _), _)
        rw [if_neg c]
    · rintro s rfl
      unfold m_313_b4
      dsimp only
      rw [if_pos (Int32.le_refl _), wp_s, lq_r]
      exact ⟨_, rfl, rfl⟩
  obtain ⟨q, q1, rfl⟩ := hw
  exact q1
def Fit (n : Nat) (V W : Nat → Int32) (σ : Nat → Nat) : Prop := ∀ b, b < 2 ^ n → V b ≠ NO → W (im σ b 8) = V b
theorem s_314 {I : ai_I} {t L k l n : Nat} {σ : Nat → Nat} (hk : k < 12) (hl : l < 12) (hn : n ≤ 8) (hI : I 76 (258 * k) = nI n) (hσ : PM n σ) (hR : RR I σ) : wp (m_314 75 (nI k) (nI l) I (Rc t) (Gc L)) (yn (Fit n (FV I k) (FV I l) σ)) := by
  have h8 := p2_le hn
  have h0 := Nat.two_pow_pos n
  unfold m_314
  refine wp_s2 (wp_lp (fun i s => s = nI i ∧ ∀ b, b < i → FV I k b ≠ NO → FV I l (im σ b 8) = FV I k b) 0 (2 ^ n) (Nat.zero_le _) (by omega) ⟨rfl, fun b hb => absurd hb (Nat.not_lt_zero _)⟩ ?_ ?_)
  · rintro i s hi ⟨rfl, hP⟩
    have him := PM_im hσ hn hi
    unfold m_314_b2
    rw [s_197 hk hn hI, o_b1_s, if_neg (show ¬ nI (2 ^ n - 1) < nI i by rw [i_lt (by omega) (by omega)]; omega), s_199 hk (by omega), o_b1_s, q_bz]
    by_cases c : FV I k i ≠ NO
    · rw [if_pos c, s_313 (by omega) hσ.1 hR, o_b1_s, s_198 hl (by omega), o_b1_s, s_198 hk (by omega), o_b1_s]
      by_cases c2 : FV I l (im σ i 8) = FV I k i
      · rw [if_pos c2, i_add, o_b1_s, wp_s, lq_l]
        refine ⟨rfl, fun b hb hV => ?_⟩
        by_cases e : b = i
        · rw [e]
          exact c2
        · exact hP b (by omega) hV
      · rw [if_neg c2, wp_s, lq_r, lq_l, m_314_x2_39, wp_s]
        exact Or.inr ⟨rfl, fun h => c2 (h i hi c)⟩
    · rw [if_neg c, i_add, o_b1_s, wp_s, lq_l]
      refine ⟨rfl, fun b hb hV => ?_⟩
      by_cases e : b = i
      · rw [e] at hV
        exact absurd hV c
      · exact hP b (by omega) hV
  · rintro s ⟨rfl, hP⟩
    unfold m_314_b2
    rw [s_197 hk hn hI, o_b1_s, if_pos (show nI (2 ^ n - 1) < nI (2 ^ n) by rw [i_lt (by omega) (by omega)]; omega), wp_s, lq_r, lq_r, m_314_x2_47, wp_s]
    exact Or.inl ⟨rfl, hP⟩
theorem BL_nd {V : Nat → Int32} : (BL V).Nodup := List.Pairwise.filter _ nd_range
theorem Fit_Sol {n r : Nat} {V W : Nat → Int32} {σ : Nat → Nat} (hV : WF n r V) (hW : WF n r W) (hl : (BL V).length = (BL W).length) (hσ : PM n σ) : Fit n V W σ ↔ Sol n V W σ := by
  have hn := hV.2.1
  have h8 := p2_le hn
  constructor
  · intro h
    refine ⟨hσ, fun S hS => ?_⟩
    by_cases c : V S = NO
    · rw [c]
      apply Eq.symm
      apply Classical.byContradiction
      intro c2
      have hmem : ∀ x, x ∈ BL V → im σ x 8 ∈ BL W := fun x hx => by
        have h1 := BL_mem.1 hx
        have h2 := (hV.2.2.2.2.1 x h1.1 h1.2).1
        have h3 := PM_im hσ hn h2
        exact BL_mem.2 ⟨by omega, by rw [h x h2 h1.2]; exact h1.2⟩
      have h3 := PM_im hσ hn hS
      obtain ⟨x, x1, x2⟩ := len_hit (φ := fun b => im σ b 8) BL_nd hmem (fun x y hx hy e => im_inj hσ.2.1 (BL_mem.1 hx).1 (BL_mem.1 hy).1 e) (Nat.le_of_eq hl.symm) (BL_mem.2 ⟨by omega, c2⟩)
      have h4 := im_inj hσ.2.1 (BL_mem.1 x1).1 (show S < 256 by omega) x2
      exact (BL_mem.1 x1).2 (h4 ▸ c)
    · exact (h S hS c).symm
  · rintro ⟨-, h⟩ b hb -
    exact (h b hb).symm
theorem Sol_len {n r : Nat} {V W : Nat → Int32} {σ : Nat → Nat} (hV : WF n r V) (hW : WF n r W) (hσ : Sol n V W σ) : (BL V).length = (BL W).length := by
  have hn := hV.2.1
  have h8 := p2_le hn
  obtain ⟨τ, t1, t2, t3⟩ := PM_inv hσ.1
  refine Nat.le_antisymm ?_ ?_
  · refine len_inj (φ := fun b => im σ b 8) _ _ BL_nd (fun x hx => ?_) (fun x y hx hy e => im_inj hσ.1.2.1 (BL_mem.1 hx).1 (BL_mem.1 hy).1 e)
    have h1 := BL_mem.1 hx
    have h2 := (hV.2.2.2.2.1 x h1.1 h1.2).1
    have h3 := PM_im hσ.1 hn h2
    exact BL_mem.2 ⟨by omega, by rw [← hσ.2 x h2]; exact h1.2⟩
  · refine len_inj (φ := fun b => im τ b 8) _ _ BL_nd (fun x hx => ?_) (fun x y hx hy e => im_inj t1.2.1 (BL_mem.1 hx).1 (BL_mem.1 hy).1 e)
    have h1 := BL_mem.1 hx
    have h2 := (hW.2.2.2.2.1 x h1.1 h1.2).1
    have h3 := PM_im t1 hn h2
    refine BL_mem.2 ⟨by omega, ?_⟩
    rw [hσ.2 _ h3, im_comp t1.1, im_id (fun i hi => t3 i hi) h1.1]
    exact h1.2
/-- how far a row lies, at most -/
def mu (σ : Nat → Nat) : Nat := 2 * cdk σ 6 + if σ 7 < σ 6 then 1 else 0
theorem mu_lt {σ : Nat → Nat} (h : ∀ i, i < 8 → σ i < 8) : mu σ < 600000 := by
  have h1 := cdk_lt h 6 (by omega)
  unfold mu
  split
  · omega
  · omega
theorem mu_mono {n : Nat} {σ τ : Nat → Nat} (hσ : PM n σ) (hτ : PM n τ) (h : cd σ < cd τ) : mu σ < mu τ := by
  obtain ⟨d, d1, d2, d3⟩ := cd_lx hσ.1 hτ.1 h
  have h8 : PM 8 σ := ⟨hσ.1, hσ.2.1, fun i h1 h2 => by omega⟩
  have h9 : PM 8 τ := ⟨hτ.1, hτ.2.1, fun i h1 h2 => by omega⟩
  by_cases c : d < 6
  · have h1 := cdk_mono hσ.1 d2 d3 5 (by omega) (by omega)
    unfold mu
    have h2 : (if σ 7 < σ 6 then 1 else 0) ≤ 1 := by split <;> omega
    have h3 : cdk σ 6 < cdk τ 6 := h1
    omega
  · have e := cdk_cong 6 (fun i hi => d2 i (by omega))
    obtain ⟨k, k1, k2, k3⟩ := PM_from (Nat.le_refl 8) h8 h9 d1 d2
    have k4 : ¬ k = d := fun e => by
      rw [e] at k3
      omega
    obtain rfl : d = 6 := by omega
    obtain rfl : k = 7 := by omega
    obtain ⟨m, m1, m2, m3⟩ := PM_from (Nat.le_refl 8) h9 h8 d1 (fun i hi => (d2 i hi).symm)
    have m4 : m = 7 := by
      by_cases c2 : m = 6
      · rw [c2] at m3
        omega
      · omega
    subst m4
    unfold mu
    rw [if_neg (by omega), if_pos (by omega), e]
    omega
noncomputable def fs (n : Nat) (V W : Nat → Int32) (c : Nat) : Nat := fln (cl (fun c => Sol n V W (dc c))) c
theorem fs_le {n : Nat} {V W : Nat → Int32} {c : Nat} : fs n V W c ≤ c := fln_le _ _
theorem fs_gap {n : Nat} {V W : Nat → Int32} {a : Nat} : ∀ m, (∀ c, a ≤ c → c < a + m → ¬ Sol n V W (dc c)) → fs n V W (a + m) = fs n V W a
  | 0, _ => rfl
  | m + 1, h => by
    have e : fs n V W (a + m + 1) = fs n V W (a + m) := fln_f (h (a + m) (by omega) (by omega))
    exact e.trans (fs_gap m (fun c h1 h2 => h c h1 (by omega)))
theorem fs_none {n : Nat} {V W : Nat → Int32} {c : Nat} (h : fs n V W c = 0) {b : Nat} (hb : b < c) : ¬ Sol n V W (dc b) := fun hs => by
  have h1 : fs n V W (b + 1) = fs n V W b + 1 := fln_t hs
  have h2 : fs n V W (b + 1) ≤ fs n V W c := fln_mono (c - (b + 1)) _ _ (by omega)
  omega
/-- the first row found -/
def FS (n : Nat) (V W : Nat → Int32) (M : ai_I) (c : Nat) : Prop := (fs n V W c = 0 ∧ ∀ i, i < 8 → M 92 i = -2) ∨ (¬ fs n V W c = 0 ∧ ∃ f, Sol n V W f ∧ (∀ ρ, Sol n V W ρ → cd f ≤ cd ρ) ∧ ∀ i, i < 8 → M 92 i = nI (f i))
theorem FS_eq {n : Nat} {V W : Nat → Int32} {M K : ai_I} {c c2 : Nat} (h : FS n V W M c) (e : fs n V W c2 = fs n V W c) (e2 : K 92 = M 92) : FS n V W K c2 := by
  unfold FS
  rw [e, e2]
  exact h
theorem id_le {n c : Nat} (h : PM n (dc c)) (hc : cd (dc c) = c) : cd (fun i => i) ≤ c := Nat.le_of_not_lt (fun h2 => by
  have id8 : PM n (fun i => i) := ⟨fun i hi => hi, fun i j _ _ e => e, fun _ _ _ => rfl⟩
  rw [← hc] at h2
  obtain ⟨d, d1, d2, d3⟩ := cd_lx h.1 id8.1 h2
  have h4 := d2 (dc c d) d3
  have h5 := h.2.1 _ d (by omega) d1 h4
  omega)
theorem s_315 {I : ai_I} {t L k l n r N : Nat} {R : Int32 × ai_I → Prop} (hN : ∀ σ : Nat → Nat, (∀ i, i < 8 → σ i < 8) → cd σ < N) (hN2 : ∀ c, c < N → cd (dc c) = c) (hk : k < 12) (hl : l < 12) (hV : WF n r (FV I k)) (hW : WF n r (FV I l)) (hI : I 76 (258 * k) = nI n) (w : Int32) (hR : ∀ M, ot2 I M 91 92 → FS n (FV I k) (FV I l) M N → wp (m_315_x83_152 75 w (Rc t) (Gc L) (nI (fs n (FV I k) (FV I l) N)) M) R) (hNb : N < 2147483648) : wp (o_s1 (lp (fun s => m_315_b32 75 (Rc t) (Gc L) s.1 s.2) o_N ((nI 0), I)) (fun t_1 => m_315_x32_63 75 (nI k) (nI l) w (Rc t) (Gc L) t_1)) R := by
  have hn := hV.2.1
  have h2n := hV.1
  have hfr : ∀ M : ai_I, ot2 I M 91 92 → FV M k = FV I k ∧ FV M l = FV I l ∧ M 76 (258 * k) = nI n := fun M h => by
    have e := h 76 (by decide) (by decide)
    unfold FV
    rw [e]
    exact ⟨rfl, rfl, hI⟩
  refine wp_s1 (wp_lp (fun i s => s.1 = nI i ∧ ot2 I s.2 91 92 ∧ ∀ j, j < i → s.2 91 j = nI j ∧ s.2 92 j = -2) 0 8 (Nat.zero_le _) (by omega) ⟨rfl, fun _ _ _ => rfl, fun j hj => absurd hj (Nat.not_lt_zero _)⟩ ?_ ?_)
  · rintro i ⟨s, M⟩ hi ⟨h1, h2, h3⟩
    dsimp only at h1 h2 h3
    subst h1
    unfold m_315_b32
    dsimp only
    rw [if_neg (nI_ge hi (by decide)), r_75_31, r_75_32, g_91 hi, o_g_t, i_cl (by omega), o_b1_s, g_92 hi, o_g_t, o_b1_s, i_add, o_b1_s, wp_s, lq_l]
    refine ⟨rfl, fun c c1 c2 => by dsimp only; rw [up_ne c2, up_ne c1]; exact h2 c c1 c2, fun j hj => ?_⟩
    dsimp only
    rw [up_ne (by decide), up_eq, up_eq]
    by_cases e : j = i
    · rw [e, up_eq, up_eq]
      exact ⟨rfl, rfl⟩
    · rw [up_ne e, up_ne e, up_ne (by decide)]
      exact h3 j (by omega)
  · rintro ⟨s, M⟩ ⟨h1, h2, h3⟩
    dsimp only at h1 h2 h3
    subst h1
    unfold m_315_b32
    dsimp only
    rw [if_pos (Int32.le_refl _), wp_s, lq_r]
    obtain ⟨f1, f2, f3⟩ := hfr M h2
    unfold m_315_x32_63
    rw [s_204 hk, o_b1_s, s_204 hl, o_b1_s, f1, f2]
    have b1 := BL_len hV
    have b2 := BL_len hW
    have id8 : PM n (fun i => i) := ⟨fun i hi => hi, fun i j _ _ e => e, fun _ _ _ => rfl⟩
    have z0 : fs n (FV I k) (FV I l) 0 = 0 := rfl
    have body : ∀ x0 : Int32, ((∃ σ, x0 = nI 1 ∧ PM n σ ∧ 0 ≤ mu σ ∧ RR M σ ∧ fs n (FV I k) (FV I l) (cd σ) = 0 ∧ FS n (FV I k) (FV I l) M (cd σ)) ∨ (x0 = nI 0 ∧ fs n (FV I k) (FV I l) N = 0 ∧ FS n (FV I k) (FV I l) M N)) → ((BL (FV I k)).length = (BL (FV I l)).length ∨ x0 = nI 0) → wp (m_315_j81 75 (nI k) (nI l) w (Rc t) (Gc L) M x0) R := by
      intro x0 hx0 hlen
      unfold m_315_j81
      refine wp_s1 (wp_lp (fun i s => (∃ σ, s.2.1 = nI 1 ∧ PM n σ ∧ i ≤ mu σ ∧ RR s.2.2 σ ∧ s.1 = nI (fs n (FV I k) (FV I l) (cd σ)) ∧ FS n (FV I k) (FV I l) s.2.2 (cd σ) ∧ ot2 I s.2.2 91 92 ∧ (BL (FV I k)).length = (BL (FV I l)).length) ∨ (s.2.1 = nI 0 ∧ s.1 = nI (fs n (FV I k) (FV I l) N) ∧ FS n (FV I k) (FV I l) s.2.2 N ∧ ot2 I s.2.2 91 92)) 0 600000 (Nat.zero_le _) (by omega) ?_ ?_ ?_)
      · rcases hx0 with ⟨σ, p1, p2, p3, p4, p5, p6⟩ | ⟨p1, p2, p3⟩
        · refine Or.inl ⟨σ, p1, p2, p3, p4, by rw [p5], p6, h2, ?_⟩
          rcases hlen with h | h
          · exact h
          · rw [p1] at h
            exact absurd h (by decide)
        · exact Or.inr ⟨p1, by rw [p2], p3, h2⟩
      · rintro i ⟨s1, s2, K⟩ hi (⟨σ, p1, p2, p3, p4, p5, p6, p7, p8⟩ | ⟨p1, p2, p3, p4⟩)
        · dsimp only at p1 p4 p5 p6 p7
          subst p1 p5
          obtain ⟨e1, e2, e3⟩ := hfr K p7
          have hb := hN σ p2.1
          have hfl : fs n (FV I k) (FV I l) (cd σ) ≤ cd σ := fs_le
          have next : ∀ (x : Nat) (Q : ai_I), x = fs n (FV I k) (FV I l) (cd σ + 1) → RR Q σ → ot2 I Q 91 92 → FS n (FV I k) (FV I l) Q (cd σ + 1) → wp (m_315_j138 75 (nI k) (Rc t) (Gc L) (nI x) Q) (lq (fun s => (∃ σ, s.2.1 = nI 1 ∧ PM n σ ∧ i + 1 ≤ mu σ ∧ RR s.2.2 σ ∧ s.1 = nI (fs n (FV I k) (FV I l) (cd σ)) ∧ FS n (FV I k) (FV I l) s.2.2 (cd σ) ∧ ot2 I s.2.2 91 92 ∧ (BL (FV I k)).length = (BL (FV I l)).length) ∨ (s.2.1 = nI 0 ∧ s.1 = nI (fs n (FV I k) (FV I l) N) ∧ FS n (FV I k) (FV I l) s.2.2 N ∧ ot2 I s.2.2 91 92)) (fun (t_1 : Int32 × ai_I) => wp (m_315_x83_152 75 w (Rc t) (Gc L) t_1.1 t_1.2) R)) := by
            intro x Q g1 g2 g3 g4
            obtain ⟨d1, d2, d3⟩ := hfr Q g3
            unfold m_315_j138
            rw [s_195 hk, o_b1_s, d3]
            obtain ⟨q, q1, q2, q3⟩ := s_311 (t := t) (L := L) h2n hn p2 g2
            rw [q1, o_b2, wp_s, lq_l]
            have q4 : ot2 I q.2 91 92 := fun c c1 c2 => (q2 c c1).trans (g3 c c1 c2)
            rcases q3 with ⟨y1, y2⟩ | ⟨y1, τ, y2, y3, y4, y5⟩
            · have e : fs n (FV I k) (FV I l) N = fs n (FV I k) (FV I l) (cd σ + 1) := by
                have h := fs_gap (n := n) (V := FV I k) (W := FV I l) (a := cd σ + 1) (N - (cd σ + 1)) (fun c c1 c2 hs => by
                  have h5 := y2 _ hs.1
                  rw [hN2 c (by omega)] at h5
                  omega)
                rw [show cd σ + 1 + (N - (cd σ + 1)) = N by omega] at h
                exact h
              exact Or.inr ⟨y1, by dsimp only; rw [e, g1], FS_eq g4 e (q2 92 (by decide)), q4⟩
            · have hbt := hN τ y2.1
              have e : fs n (FV I k) (FV I l) (cd τ) = fs n (FV I k) (FV I l) (cd σ + 1) := by
                have h := fs_gap (n := n) (V := FV I k) (W := FV I l) (a := cd σ + 1) (cd τ - (cd σ + 1)) (fun c c1 c2 hs => by
                  have h6 := hN2 c (by omega)
                  have h5 := y4 _ hs.1 (by rw [h6]; omega)
                  rw [h6] at h5
                  omega)
                rw [show cd σ + 1 + (cd τ - (cd σ + 1)) = cd τ by omega] at h
                exact h
              have hm := mu_mono p2 y2 y3
              exact Or.inl ⟨τ, y1, y2, by omega, y5, by dsimp only; rw [e, g1], FS_eq g4 e (q2 92 (by decide)), q4, p8⟩
          unfold m_315_b83
          dsimp only
          rw [if_neg (by decide)]
          refine wp_b1 (wp_mono (s_314 (t := t) (L := L) (I := K) hk hl hn e3 p2 p4) ?_)
          have hS : Sol n (FV I k) (FV I l) (dc (cd σ)) ↔ Sol n (FV I k) (FV I l) σ := ⟨Sol_cong (fun i hi => dc_cd p2.1 hi), Sol_cong (fun i hi => (dc_cd p2.1 hi).symm)⟩
          rw [e1, e2]
          rintro y (⟨rfl, c⟩ | ⟨rfl, c⟩)
          · rw [q_10]
            have c2 := (Fit_Sol hV hW p8 p2).1 c
            have e4 : fs n (FV I k) (FV I l) (cd σ + 1) = fs n (FV I k) (FV I l) (cd σ) + 1 := fln_t (hS.2 c2)
            by_cases hz : fs n (FV I k) (FV I l) (cd σ) = 0
            · refine wp_s1 (wp_lp (fun j s => s.1 = nI j ∧ ot K s.2 92 ∧ ∀ i, i < j → s.2 92 i = nI (σ i)) 0 8 (Nat.zero_le _) (by omega) ⟨rfl, fun _ _ => rfl, fun i hi => absurd hi (Nat.not_lt_zero _)⟩ ?_ ?_)
              · rintro j ⟨u, Q⟩ hj ⟨g1, g2, g3⟩
                dsimp only at g1 g2 g3
                subst g1
                unfold m_315_b100
                dsimp only
                rw [if_neg (nI_ge hj (by decide)), hz, if_pos (by decide), r_75_31, r_75_32, g_91 hj, o_g_t, g_92 hj, o_g_t, i_cl (by omega), o_b1_s, i_add, o_b1_s, wp_s, lq_l]
                refine ⟨rfl, fun c hc => by dsimp only; rw [up_ne hc]; exact g2 c hc, fun i hi => ?_⟩
                dsimp only
                rw [up_eq]
                by_cases e5 : i = j
                · rw [e5, up_eq, g2 91 (by decide)]
                  exact p4 j hj
                · rw [up_ne e5]
                  exact g3 i (by omega)
              · rintro ⟨u, Q⟩ ⟨g1, g2, g3⟩
                dsimp only at g1 g2 g3
                subst g1
                unfold m_315_b100
                dsimp only
                rw [if_pos (Int32.le_refl _), wp_s, lq_r]
                unfold m_315_x100_132
                rw [i_add, o_b1_s]
                refine next _ Q e4.symm (fun i hi => by rw [g2 91 (by decide)]; exact p4 i hi) (fun c c1 c2 => (g2 c c2).trans (p7 c c1 c2)) (Or.inr ⟨by omega, σ, c2, fun ρ hρ => ?_, g3⟩)
                apply Nat.le_of_not_lt
                intro h
                exact fs_none hz h (Sol_cong (fun i hi => (dc_cd hρ.1.1 hi).symm) hρ)
            · have hout : m_315_b100 75 (Rc t) (Gc L) (nI (fs n (FV I k) (FV I l) (cd σ))) (nI 0) K = some (Sum.inr K) := by
                unfold m_315_b100
                rw [if_neg (by decide), if_neg (show ¬ nI (fs n (FV I k) (FV I l) (cd σ)) = 0 by rw [i_e0 (by omega)]; exact hz)]
              rw [show o_N = 1999999 + 1 from rfl, lp_out (by exact hout), o_s1_s]
              unfold m_315_x100_132
              rw [i_add, o_b1_s]
              refine next _ K e4.symm p4 p7 ?_
              rcases p6 with ⟨v1, v2⟩ | ⟨v1, v2⟩
              · exact absurd v1 hz
              · exact Or.inr ⟨by omega, v2⟩
          · rw [q_00]
            have c2 : ¬ Sol n (FV I k) (FV I l) σ := fun h => c ((Fit_Sol hV hW p8 p2).2 h)
            have e4 : fs n (FV I k) (FV I l) (cd σ + 1) = fs n (FV I k) (FV I l) (cd σ) := fln_f (fun h => c2 (hS.1 h))
            exact next _ K e4.symm p4 p7 (FS_eq p6 e4 rfl)
        · dsimp only at p1 p2 p3 p4
          subst p1 p2
          unfold m_315_b83
          dsimp only
          rw [if_pos (by decide), wp_s, lq_r]
          exact hR K p4 p3
      · rintro ⟨s1, s2, K⟩ (⟨σ, p1, p2, p3, -⟩ | ⟨p1, p2, p3, p4⟩)
        · have := mu_lt p2.1
          omega
        · dsimp only at p1 p2 p3 p4
          subst p1 p2
          unfold m_315_b83
          dsimp only
          rw [if_pos (by decide), wp_s, lq_r]
          exact hR K p4 p3
    rw [q_eq (by omega) (by omega)]
    by_cases c : (BL (FV I k)).length = (BL (FV I l)).length
    · rw [if_pos c]
      have e0 : fs n (FV I k) (FV I l) (cd (fun i => i)) = 0 := by
        have h := fs_gap (n := n) (V := FV I k) (W := FV I l) (a := 0) (cd (fun i => i)) (fun c _ c2 hs => by
          have h5 := id_le hs.1 (hN2 c (by have := hN _ id8.1; omega))
          omega)
        rw [Nat.zero_add] at h
        rw [h]
        exact z0
      exact body (nI 1) (Or.inl ⟨fun i => i, rfl, id8, Nat.zero_le _, fun i hi => (h3 i hi).1, e0, Or.inl ⟨e0, fun i hi => (h3 i hi).2⟩⟩) (Or.inl c)
    · rw [if_neg c]
      have e0 : fs n (FV I k) (FV I l) N = 0 := by
        have h := fs_gap (n := n) (V := FV I k) (W := FV I l) (a := 0) N (fun x _ c2 hs => c (Sol_len hV hW hs))
        rw [Nat.zero_add] at h
        rw [h]
        exact z0
      exact body (nI 0) (Or.inr ⟨rfl, e0, Or.inl ⟨e0, fun i hi => (h3 i hi).2⟩⟩) (Or.inr rfl)
def OPJ (I : ai_I) (x : Option (Int32 × ai_I × ai_J)) (y : ai_I → Option (Int32 × ai_I)) : Prop := ∃ r I1 J1 I2, x = some (r, I1, J1) ∧ y I1 = some (r, I2) ∧ SAME I I2 ∧ I1 1999 = I 1999
theorem fin_onto {I M K : ai_I} (h1 : ∀ c, ¬ c = 68 → ¬ c = 69 → ¬ c = 70 → M c = I c) (h2 : ot2 M K 91 92) : SAME I K := ⟨fun c hc => by rw [h2 c (by omega) (by omega), h1 c (by omega) (by omega) (by omega)], fun i _ => by rw [h2 76 (by decide) (by decide), h1 76 (by decide) (by decide) (by decide)], by rw [h2 77 (by decide) (by decide), h1 77 (by decide) (by decide) (by decide)], by rw [h2 75 (by decide) (by decide), h1 75 (by decide) (by decide) (by decide)], by rw [h2 75 (by decide) (by decide), h1 75 (by decide) (by decide) (by decide)], by rw [h2 1999 (by decide) (by decide), h1 1999 (by decide) (by decide) (by decide)]⟩
theorem op_onto {I : ai_I} {J : ai_J} {t L : Nat} (h : ST I) (s u x : Int32) : OPJ I (m_168 1 s u x I J (Rc t) (Gc L)) (fun I1 => m_315 75 s u x I1 (Rc t) (Gc L)) := by
  have bad : ∀ K : ai_I, m_203 75 s u K (Rc t) (Gc L) = some (nI 0) → m_315 75 s u x K (Rc t) (Gc L) = some (-1, K) := fun K hK => by
    unfold m_315
    rw [hK, o_b1_s, q_00]
  rcases x_cases s (n := 3) (by decide) with ⟨k, hk, rfl⟩ | hs
  · rcases x_cases u (n := 3) (by decide) with ⟨l, hl, rfl⟩ | hu
    · obtain ⟨n, r, hW, hC, hI, hIr⟩ := h.1 k (by omega)
      obtain ⟨n2, r2, hW2, hC2, hI2, hIr2⟩ := h.1 l (by omega)
      have b1 := hW.2.1
      have b2 := hW2.2.1
      have b3 := hW.2.2.2.1
      have b4 := hW2.2.2.2.1
      have b5 := hW.1
      have hv := vc_s (s := k) (by omega)
      have hv2 := vc_s (s := l) (by omega)
      have hs203 : ∀ K : ai_I, K 76 = I 76 → m_203 75 (nI k) (nI l) K (Rc t) (Gc L) = some (bz (n = n2 ∧ r = r2)) := fun K hK => s_203 (by omega) (by omega) b1 b2 (by omega) (by omega) (by rw [hK]; exact hI) (by rw [hK]; exact hI2) (by rw [hK]; exact hIr) (by rw [hK]; exact hIr2)
      by_cases e : n = n2 ∧ r = r2
      · obtain ⟨rfl, rfl⟩ := e
        rcases x_cases x (n := n) (by omega) with ⟨w, hw, rfl⟩ | hx
        · obtain ⟨q, q1, q2, q3, q4⟩ := c_59 (t := t) (L := L) (I := I) (J := J) ⟨hv, hv2, by omega, by omega⟩ ⟨hW, hW2⟩ ⟨hC, hC2⟩
          have ec : m_168 1 (nI k) (nI l) (nI w) I J (Rc t) (Gc L) = (if w = 0 then (if q.1 = 0 then (some ((nI 0), q.2.1, q.2.2)) else (o_b2 (m_61 67 (6 + 4 * k) (6 + 4 * l) q.2.1 q.2.2 (Rc t) (Gc L)) (fun r_75 I_75 => some (r_75, I_75, q.2.2)))) else (if q.1 = 0 then (some ((-2 : Int32), q.2.1, q.2.2)) else (o_g (o_in (Gc L) 13 68 (nI w - (nI 1))) (some (q.2.1 68 (nI w - (nI 1)).toNatClampNeg, q.2.1, q.2.2))))) := by
            unfold m_168
            rw [r_1_0, k_2, o_g_t, c_96 (by omega), o_b1_s, c_96 (by omega), o_b1_s, c_186 hv hv2 hW hW2 hC hC2, o_b1_s, q_bz, if_pos ⟨rfl, rfl⟩, if_neg (nI_pos (by omega)), v_kd hv, o_g_t, hC.1, if_pos (nI_le hw (by omega)), r_1_12, k_67, o_g_t, q1, o_b3_s, q_e0 (by omega), r_67_0]
          have er : ∀ (K : ai_I) (R : Int32 × ai_I → Prop), K 76 = I 76 → (∀ M, ot2 K M 91 92 → FS n (FV I k) (FV I l) M (8 ^ 8) → wp (m_315_x83_152 75 (nI w) (Rc t) (Gc L) (nI (fs n (FV I k) (FV I l) (8 ^ 8))) M) R) → wp (m_315 75 (nI k) (nI l) (nI w) K (Rc t) (Gc L)) R := fun K R hK hR => by
            have hFK : FV K k = FV I k ∧ FV K l = FV I l := ⟨by unfold FV; rw [hK], by unfold FV; rw [hK]⟩
            unfold m_315
            rw [hs203 K hK, o_b1_s, q_bz, if_pos ⟨rfl, rfl⟩, s_195 (by omega), o_b1_s, hK, hI, j_lit.2.1, s_189i, o_b1_s, q_bz, if_pos ⟨nI_le (Nat.zero_le _) (by omega), nI_le hw (by omega)⟩]
            refine s_315 (N := 8 ^ 8) (fun σ hσ => cd_lt hσ) (fun c hc => cd_dc hc) (show k < 12 by omega) (show l < 12 by omega) (by rw [hFK.1]; exact hW) (by rw [hFK.2]; exact hW2) (by rw [hK]; exact hI) (nI w) ?_ (by decide)
            rw [hFK.1, hFK.2]
            exact hR
          have h76 : q.2.1 76 = I 76 := q2 76 (by decide) (by decide) (by decide)
          have hfs : fs n (FV I k) (FV I l) (8 ^ 8) = 0 → ∀ f, ¬ Sol n (FV I k) (FV I l) f := fun hz f hf => fs_none hz (cd_lt hf.1.1) (Sol_cong (fun i hi => (dc_cd hf.1.1 hi).symm) hf)
          rw [ec]
          by_cases hw0 : w = 0
          · subst hw0
            have fin : ∀ K : ai_I, K 76 = I 76 → wp (m_315 75 (nI k) (nI l) (nI 0) K (Rc t) (Gc L)) (fun q => q.1 = nI (fs n (FV I k) (FV I l) (8 ^ 8)) ∧ ot2 K q.2 91 92) := fun K hK => er K _ hK (fun M m1 _ => by
              unfold m_315_x83_152
              rw [if_pos (by decide), wp_s]
              exact ⟨rfl, m1⟩)
            rw [if_pos rfl]
            rcases q4 with ⟨z1, f, z2, z3, z4⟩ | ⟨z1, z2⟩
            · rw [z1, q_10]
              obtain ⟨y, y1, y2, y3⟩ := c_61 (t := t) (L := L) q3 z2 z4
              obtain ⟨p, p1, p2, p3⟩ := fin y.2 (by rw [y3 76 (by decide) (by decide)]; exact h76)
              rw [y1, o_b2]
              refine ⟨y.1, y.2, q.2.2, p.2, rfl, ?_, fin_onto (fun c c1 c2 c3 => (y3 c c2 c3).trans (q2 c c1 c2 c3)) p3, (y3 1999 (by decide) (by decide)).trans (q2 1999 (by decide) (by decide) (by decide))⟩
              show m_315 75 (nI k) (nI l) (nI 0) y.2 (Rc t) (Gc L) = _
              rw [p1, y2, NS_zero]
              exact congrArg some (Prod.ext p2 rfl)
            · rw [z1, q_00]
              obtain ⟨p, p1, p2, p3⟩ := fin q.2.1 h76
              refine ⟨nI 0, q.2.1, q.2.2, p.2, rfl, ?_, fin_onto q2 p3, q2 1999 (by decide) (by decide) (by decide)⟩
              show m_315 75 (nI k) (nI l) (nI 0) q.2.1 (Rc t) (Gc L) = _
              have e0 : fs n (FV I k) (FV I l) (8 ^ 8) = 0 := fln_0 _ (fun c _ => cl_f (z2 _))
              rw [e0] at p2
              rw [p1]
              exact congrArg some (Prod.ext p2 rfl)
          · have fin : wp (m_315 75 (nI k) (nI l) (nI w) q.2.1 (Rc t) (Gc L)) (fun p => ot2 q.2.1 p.2 91 92 ∧ ((fs n (FV I k) (FV I l) (8 ^ 8) = 0 ∧ p.1 = -2) ∨ ∃ f, Sol n (FV I k) (FV I l) f ∧ (∀ ρ, Sol n (FV I k) (FV I l) ρ → cd f ≤ cd ρ) ∧ p.1 = nI (f (w - 1)))) := er q.2.1 _ h76 (fun M m1 m2 => by
              unfold m_315_x83_152
              rw [if_neg (show ¬ nI w = 0 by rw [i_e0 (by omega)]; exact hw0), i_sub (by omega), r_75_32, g_92 (by omega), o_g_t, i_cl (by omega), wp_s]
              refine ⟨m1, ?_⟩
              rcases m2 with ⟨m3, m4⟩ | ⟨m3, f, m4, m5, m6⟩
              · exact Or.inl ⟨m3, m4 _ (by omega)⟩
              · exact Or.inr ⟨f, m4, m5, m6 _ (by omega)⟩)
            obtain ⟨p, p1, p2, p3⟩ := fin
            rw [if_neg hw0]
            rcases q4 with ⟨z1, f, z2, z3, z4⟩ | ⟨z1, z2⟩
            · rw [z1, q_10, i_sub (by omega), g_68 (by omega), o_g_t, i_cl (by omega), z4 _ (by omega)]
              refine ⟨nI (f (w - 1)), q.2.1, q.2.2, p.2, rfl, ?_, fin_onto q2 p2, q2 1999 (by decide) (by decide) (by decide)⟩
              show m_315 75 (nI k) (nI l) (nI w) q.2.1 (Rc t) (Gc L) = _
              rw [p1]
              rcases p3 with ⟨p3, -⟩ | ⟨g, g1, g2, g3⟩
              · exact absurd z2 (hfs p3 f)
              · have e1 := cd_eq z2.1.1 g1.1.1 (Nat.le_antisymm (z3 g g1) (g2 f z2)) (i := w - 1) (by omega)
                rw [e1]
                exact congrArg some (Prod.ext g3 rfl)
            · rw [z1, q_00]
              refine ⟨-2, q.2.1, q.2.2, p.2, rfl, ?_, fin_onto q2 p2, q2 1999 (by decide) (by decide) (by decide)⟩
              show m_315 75 (nI k) (nI l) (nI w) q.2.1 (Rc t) (Gc L) = _
              rw [p1]
              rcases p3 with ⟨-, p3⟩ | ⟨g, g1, -⟩
              · exact congrArg some (Prod.ext p3 rfl)
              · exact absurd g1 (z2 g)
        · refine ⟨-1, I, J, I, ?_, ?_, SAME_rf, rfl⟩
          · unfold m_168
            rw [r_1_0, k_2, o_g_t, c_96 (by omega), o_b1_s, c_96 (by omega), o_b1_s, c_186 hv hv2 hW hW2 hC hC2, o_b1_s, q_bz, if_pos ⟨rfl, rfl⟩]
            by_cases hx0 : x < 0
            · rw [if_pos hx0]
            · rw [if_neg hx0, v_kd hv, o_g_t, hC.1, if_neg (fun h9 => hx ⟨Int32.not_lt.1 hx0, h9⟩)]
          · show m_315 75 (nI k) (nI l) x I (Rc t) (Gc L) = _
            unfold m_315
            rw [hs203 I rfl, o_b1_s, q_bz, if_pos ⟨rfl, rfl⟩, s_195 (by omega), o_b1_s, hI, j_lit.2.1, s_189i, o_b1_s, q_bz, if_neg hx]
      · refine ⟨-1, I, J, I, ?_, bad I (by rw [hs203 I rfl, bz_f e]), SAME_rf, rfl⟩
        unfold m_168
        rw [r_1_0, k_2, o_g_t, c_96 (by omega), o_b1_s, c_96 (by omega), o_b1_s, c_186 hv hv2 hW hW2 hC hC2, o_b1_s, q_bz, if_neg e]
    · refine ⟨-1, I, J, I, ?_, bad I (s_203o (Or.inr ⟨nI_in03 hk, hu⟩)), SAME_rf, rfl⟩
      unfold m_168
      rw [r_1_0, k_2, o_g_t, c_96 (by omega), o_b1_s, c_96o hu, o_b1_s, c_186o (Or.inr ⟨by omega, rfl⟩), o_b1_s, q_00]
  · obtain ⟨a, ha⟩ := c_96e (t := t) (L := L) u
    refine ⟨-1, I, J, I, ?_, bad I (s_203o (Or.inl hs)), SAME_rf, rfl⟩
    unfold m_168
    rw [r_1_0, k_2, o_g_t, c_96o hs, o_b1_s, ha, o_b1_s, c_186o (Or.inl rfl), o_b1_s, q_00]
