/-! Out of whole's part 79zl.orders, by wip/p46/extract.py. -/
/-- a text's clauses: how many, kinds, starts, how many numbers, numbers -/
abbrev CLS := Nat × (Nat → Nat) × (Nat → Nat) × Nat × (Nat → Int32)
def ckn (C : CLS) (k : Nat) : Nat → Int32 := fun i => C.2.2.2.2 (C.2.2.1 k + i)
def cnn (C : CLS) (k : Nat) : Nat := enk C.1 C.2.2.2.1 C.2.2.1 k - C.2.2.1 k
noncomputable def sqn (C : CLS) (S : AST) : Nat → AST
  | 0 => S
  | k + 1 => stp (sqn C S k) (C.2.1 k) (ckn C k) (cnn C k)
def cnk (C : CLS) (S : AST) (k : Nat) : Prop := can (sqn C S k) (C.2.1 k) (ckn C k) (cnn C k)
/-- k clauses are done, and no more -/
def dnk (C : CLS) (S : AST) (k : Nat) : Prop := k ≤ C.1 ∧ (∀ j, j < k → cnk C S j) ∧ (k = C.1 ∨ ¬ cnk C S k)
/-- what orders leaves alone in the class -/
def DFo (I J : ai_I) : Prop := (∀ c, ¬ (c = 1 ∨ c = 4 ∨ c = 2 ∨ c = 5 ∨ (6 ≤ c ∧ c < 22) ∨ (43 ≤ c ∧ c ≤ 47) ∨ (50 ≤ c ∧ c ≤ 54)) → J c = I c) ∧ (∀ j, ¬ j = 3 → J 2 j = I 2 j) ∧ ∀ j, ¬ j = 4 → J 1 j = I 1 j
theorem c_139 {I : ai_I} {t n x : Nat} {L : ai_G} {T : Nat → Nat} {S : AST} {M : Nat} (hM : M = 16) (hn1 : 1 ≤ n) (hn : n ≤ 200) (hx : I 1 4 = nI x) (hx2 : x ≤ 240) (hnx : n ≤ x) (hT : ∀ k, k < n → T k < 256 ∧ I 42 k = nI (T k)) (hS : CAF I S) : wp (m_97 1 (nI n) I (Rc t) (Gc L)) (fun q => q.2.2 = Rc 42 ∧ DFo I q.2.1 ∧ q.2.1 1 4 = nI 0 ∧ match rtx T n M with
    | .inl e => q.1 = e ∧ CAF q.2.1 S
    | .inr (m, ks, st, _, f, N) => ∃ k, q.1 = nI k ∧ dnk (m, ks, st, f, N) S k ∧ CAF q.2.1 (sqn (m, ks, st, f, N) S k)) := by
  unfold m_97
  rw [if_neg (nI_nlt (by omega) (by omega)), if_neg (nI_nlt (by omega) (by omega)), hx, if_pos (nI_le hnx (by omega)), r_1_5, k_43, o_g_t, r_1_3]
  refine wp_b2 (wp_mono (c_1 hM hn1 hn hT) ?_)
  rintro ⟨J, R⟩ ⟨hR, hC⟩
  dsimp only at hR hC ⊢
  subst hR
  rw [o_b1_s, show o_kd (Gc L) (Rc 42 1 5) 0 = true from rfl, o_g_t]
  have cafJ : CFR I J → CAF (va_up J 1 (va_up (J 1) 4 (nI 0))) S := fun hF => by
    obtain ⟨g1, g2, g3, g4, g5, g6⟩ := hS
    have e : ∀ c, ¬ c = 1 → c < 43 → va_up J 1 (va_up (J 1) 4 (nI 0)) c = I c := fun c c1 c2 => by rw [up_ne c1]; exact hF c (by omega) (by omega) (by omega) (by omega)
    exact ⟨g1, ⟨fun s hs => CS_cong (fun _ _ => rfl) (e _ (by omega) (by omega)) (e _ (by omega) (by omega)) (e _ (by omega) (by omega)) (e _ (by omega) (by omega)) (g2.1 s hs), fun i hi => by rw [e 4 (by decide) (by decide)]; exact g2.2 i hi⟩, g3, g4, by rw [e 2 (by decide) (by decide)]; exact g5, fun k hk j hj => by rw [e 5 (by decide) (by decide)]; exact g6 k hk j hj⟩
  have dfJ : CFR I J → DFo I (va_up J 1 (va_up (J 1) 4 (nI 0))) := fun hF => ⟨fun c hc => by rw [up_ne (by omega)]; exact hF c (by omega) (by omega) (by omega) (by omega), fun j _ => by rw [up_ne (by decide), hF 2 (by decide) (by decide) (by decide) (by decide)], fun j hj => by rw [up_eq, up_ne hj, hF 1 (by decide) (by decide) (by decide) (by decide)]⟩
  cases hr : rtx T n M with
  | inl e =>
    rw [hr] at hC
    obtain ⟨he, hF, h1⟩ := hC
    rw [if_neg (show ¬ va_up J 1 (va_up (J 1) 4 (nI 0)) (Rc 42 1 5) 1 = 0 by rw [r_1_5, up_ne (by decide), h1]; exact he), wp_s]
    refine ⟨rfl, dfJ hF, by dsimp only; rw [up_eq, up_eq], ?_⟩
    dsimp only
    rw [r_1_5, up_ne (show ¬ 43 = 1 by decide)]
    exact ⟨h1, cafJ hF⟩
  | inr y =>
    obtain ⟨m, ks, st, q, f, N⟩ := y
    rw [hr] at hC
    obtain ⟨hF, h1, h0, hm, hk, h46, hf, h47⟩ := hC
    have hfs := rtx_f hr
    rw [if_pos (show va_up J 1 (va_up (J 1) 4 (nI 0)) (Rc 42 1 5) 1 = 0 by rw [r_1_5, up_ne (by decide), h1])]
    generalize hJ' : va_up J 1 (va_up (J 1) 4 (nI 0)) = J' at cafJ dfJ ⊢
    have j43 : ∀ c, 43 ≤ c → J' c = J c := fun c hc => by rw [← hJ', up_ne (by omega)]
    have j14 : J' 1 4 = nI 0 := by rw [← hJ', up_eq, up_eq]
    have cc : ∀ k K, k < m → DFr J' K → CCd K m k (ks k) (st k) (enk m f st k) (ckn (m, ks, st, f, N) k) := fun k K hkm hD => by
      obtain ⟨e1, e2, e3, e4⟩ := hfs k hkm
      have e : ∀ c, 43 ≤ c → c ≤ 47 → K c = J c := fun c c1 c2 => by rw [hD.1 c (by omega), j43 c c1]
      refine ⟨by rw [e 43 (by decide) (by decide)]; exact h0, hkm, hm, by rw [e 45 (by decide) (by decide)]; exact (hk k hkm).1, by rw [e 46 (by decide) (by decide)]; exact (hk k hkm).2, ?_, e1, by omega, fun i hi => ?_⟩
      · rw [e 46 (by decide) (by decide)]
        unfold enk
        by_cases c : k + 1 = m
        · rw [if_pos c, c]
          exact h46
        · rw [if_neg c]
          exact (hk (k + 1) (by omega)).2
      · rw [e 47 (by decide) (by decide)]
        exact h47 _ (by omega)
    have dfr_t : ∀ K K2, DFr J' K → DFr K K2 → DFr J' K2 := fun K K2 hd hd2 => ⟨fun c hc => (hd2.1 c hc).trans (hd.1 c hc), fun j hj => (hd2.2 j hj).trans (hd.2 j hj)⟩
    have dfo : ∀ K, DFr J' K → DFo I K := fun K hd => by
      obtain ⟨o1, o2, o3⟩ := dfJ hF
      exact ⟨fun c hc => (hd.1 c (by omega)).trans (o1 c hc), fun j hj => (hd.2 j hj).trans (o2 j hj), fun j hj => by rw [hd.1 1 (by omega)]; exact o3 j hj⟩
    refine wp_s2 (wp_lp (fun k s => s.1 = nI k ∧ (∀ j, j < k → cnk (m, ks, st, f, N) S j) ∧ CAF s.2 (sqn (m, ks, st, f, N) S k) ∧ DFr J' s.2) 0 m (Nat.zero_le _) (by omega) ⟨rfl, fun j hj => absurd hj (Nat.not_lt_zero _), cafJ hF, ⟨fun _ _ => rfl, fun _ _ => rfl⟩⟩ ?_ ?_)
    · rintro k ⟨v, K⟩ hkm ⟨g1, g2, g3, g4⟩
      dsimp only at g1 g3 g4
      subst g1
      unfold m_97_b59
      dsimp only
      rw [if_neg (show ¬ K (Rc 42 1 5) 0 ≤ nI k by rw [r_1_5, g4.1 43 (by decide), j43 43 (by decide), h0]; exact nI_ge hkm (by omega))]
      refine wp_b2 (wp_mono (c_140 (hfs k hkm).2.2.1 g3 (cc k K hkm g4) (hfs k hkm).2.2.2) ?_)
      rintro ⟨v, K2⟩ (⟨rfl, p1, p2, p3⟩ | ⟨rfl, p1, p2, p3⟩)
      · dsimp only
        rw [if_neg (show ¬ nI 1 = 0 by decide), i_add, o_b1_s, wp_s, lq_l]
        refine ⟨rfl, fun j hj => ?_, p2, dfr_t _ _ g4 p3⟩
        by_cases e : j = k
        · rw [e]
          exact p1
        · exact g2 j (by omega)
      · dsimp only
        rw [q_00, wp_s, lq_r, lq_l, m_97_x59_78, wp_s]
        exact ⟨rfl, dfo _ (dfr_t _ _ g4 p3), by have := (dfr_t _ _ g4 p3).1 1 (by omega); dsimp only at this ⊢; rw [this]; exact j14, k, rfl, ⟨by dsimp only; omega, g2, Or.inr p1⟩, p2⟩
    · rintro ⟨v, K⟩ ⟨g1, g2, g3, g4⟩
      dsimp only at g1 g3 g4
      subst g1
      unfold m_97_b59
      dsimp only
      have e0 : K 43 0 = nI m := by rw [g4.1 43 (by decide), j43 43 (by decide)]; exact h0
      rw [if_pos (show K (Rc 42 1 5) 0 ≤ nI m by rw [r_1_5, e0]; exact Int32.le_refl _), wp_s, lq_r, lq_r]
      unfold m_97_x59_86
      rw [r_1_5, e0, wp_s]
      exact ⟨rfl, dfo _ g4, by dsimp only; rw [g4.1 1 (by omega)]; exact j14, m, rfl, ⟨Nat.le_refl _, g2, Or.inl rfl⟩, g3⟩
