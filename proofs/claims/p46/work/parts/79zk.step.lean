/-! Out of whole's part 79zk.step, by wip/p46/extract.py. -/
/-- shelves and prices; how many notes; notes, the latest first -/
abbrev AST := SV × Nat × (Nat → Nat → Int32)
noncomputable def mk0 (A : SV) (kd : Nat) (c : Nat → Int32) (cnt : Nat) : Nat × Nat × (Nat → Int32) := @Classical.epsilon _ ⟨(0, 0, fun _ => 0)⟩ (fun x => DRk A kd c cnt x.1 x.2.1 x.2.2 ∧ okd x.2.2)
def canM (A : SV) (kd : Nat) (c : Nat → Int32) (cnt : Nat) : Prop := ∃ n r D, DRk A kd c cnt n r D ∧ okd D
theorem mk0_s {A : SV} {kd cnt n r : Nat} {c D : Nat → Int32} (h : DRk A kd c cnt n r D) (ok : okd D) : (mk0 A kd c cnt).1 = n ∧ (mk0 A kd c cnt).2.1 = r ∧ (∀ j, j < 256 → D j = (mk0 A kd c cnt).2.2 j) ∧ DRk A kd c cnt n r (mk0 A kd c cnt).2.2 ∧ okd (mk0 A kd c cnt).2.2 := by
  have hs : DRk A kd c cnt (mk0 A kd c cnt).1 (mk0 A kd c cnt).2.1 (mk0 A kd c cnt).2.2 ∧ okd (mk0 A kd c cnt).2.2 := @Classical.epsilon_spec _ (fun x : Nat × Nat × (Nat → Int32) => DRk A kd c cnt x.1 x.2.1 x.2.2 ∧ okd x.2.2) ⟨(n, r, D), h, ok⟩
  obtain ⟨u1, u2, u3⟩ := DRk_un h hs.1
  exact ⟨u1.symm, u2.symm, u3, by rw [u1, u2]; exact hs.1, hs.2⟩
/-- a new note ahead of the others -/
def nxn (s n b1 b2 : Nat) (nt : Nat → Nat → Int32) : Nat → Nat → Int32 := fun k j => if k = 0 then (if j = 0 then nI s else if j = 1 then nI b1 else if j = 2 then nI b2 else nI n) else nt (k - 1) j
noncomputable def stp (S : AST) (kd : Nat) (c : Nat → Int32) (cnt : Nat) : AST :=
  if kd = 0 then ((S.1.1, S.1.2.1, S.1.2.2.1, va_up S.1.2.2.2 (c 0).toNatClampNeg (c 1)), S.2) else ((va_up S.1.1 (c 0).toNatClampNeg (mk0 S.1 kd c cnt).1, va_up S.1.2.1 (c 0).toNatClampNeg (mk0 S.1 kd c cnt).2.1, va_up S.1.2.2.1 (c 0).toNatClampNeg (mk0 S.1 kd c cnt).2.2, S.1.2.2.2), min 20 (S.2.1 + 1), nxn (c 0).toNatClampNeg (mk0 S.1 kd c cnt).1 (BL (S.1.2.2.1 (c 0).toNatClampNeg)).length (BL (mk0 S.1 kd c cnt).2.2).length S.2.2)
def can (S : AST) (kd : Nat) (c : Nat → Int32) (cnt : Nat) : Prop := kd = 0 ∨ canM S.1 kd c cnt
def PB (S : AST) : Prop := ∀ e, e < 8 → -1000 ≤ S.1.2.2.2 e ∧ S.1.2.2.2 e ≤ nI 1000
def CAF (I : ai_I) (S : AST) : Prop := WFA S.1 ∧ CAs I S.1 ∧ PB S ∧ S.2.1 ≤ 20 ∧ I 2 3 = nI S.2.1 ∧ ∀ k, k < S.2.1 → ∀ j, j < 4 → I 5 (4 * k + j) = S.2.2 k j
theorem CF_0 {kd cnt : Nat} {c : Nat → Int32} (h : CFk kd c cnt) (h2 : kd < 14) : 2 ≤ cnt ∧ (kd = 0 → ∃ e, e ≤ 7 ∧ c 0 = nI e) ∧ (¬ kd = 0 → ∃ s, s ≤ 3 ∧ c 0 = nI s) := by
  by_cases c0 : kd = 0
  · subst c0
    unfold CFk at h
    rw [if_pos rfl] at h
    exact ⟨h.1, fun _ => h.2.1, fun hh => absurd rfl hh⟩
  · by_cases c4 : 4 < kd
    · unfold CFk at h
      rw [if_neg c0, if_pos c4] at h
      exact ⟨h.1, fun hh => absurd hh c0, fun _ => h.2.1⟩
    · obtain ⟨g1, a, b, ⟨g2, -⟩, -⟩ := hd_of h (by omega) (by omega)
      exact ⟨by omega, fun hh => absurd hh c0, fun _ => g2⟩
/-- what a clause's doing leaves alone, in the class -/
def DFr (I J : ai_I) : Prop := (∀ c, ¬ (c = 4 ∨ c = 2 ∨ c = 5 ∨ (6 ≤ c ∧ c < 22) ∨ (50 ≤ c ∧ c ≤ 54)) → J c = I c) ∧ ∀ j, ¬ j = 3 → J 2 j = I 2 j
theorem WFA_s {A : SV} {s n r : Nat} {D : Nat → Int32} (hA : WFA A) (h : WF n r D) : WFA (va_up A.1 s n, va_up A.2.1 s r, va_up A.2.2.1 s D, A.2.2.2) := fun x hx => by
  by_cases e : x = s
  · subst e
    dsimp only
    rw [up_eq, up_eq, up_eq]
    exact h
  · dsimp only
    rw [up_ne e, up_ne e, up_ne e]
    exact hA x hx
theorem c_140 {I : ai_I} {t m k kd a b : Nat} {L : ai_G} {S : AST} {c : Nat → Int32} (h2 : kd < 14) (hS : CAF I S) (hC : CCd I m k kd a b c) (hF : CFk kd c (b - a)) : wp (m_98 1 (nI k) I (Rc t) (Gc L)) (fun q => (q.1 = nI 1 ∧ can S kd c (b - a) ∧ CAF q.2 (stp S kd c (b - a)) ∧ DFr I q.2) ∨ (q.1 = nI 0 ∧ ¬ can S kd c (b - a) ∧ CAF q.2 S ∧ DFr I q.2)) := by
  obtain ⟨hA, hI, hP, hm, hm3, hN⟩ := id hS
  obtain ⟨q1, q2, q3, q4, q5, q6, q7, q8, q9⟩ := id hC
  obtain ⟨f1, f2, f3⟩ := CF_0 hF h2
  unfold m_98
  rw [r_1_5, k_43, o_g_t, CCd_n hC (show 0 < b - a by omega), o_b1_s, c_2 q3 q2 q1 q4, o_b1_s]
  by_cases c0 : kd = 0
  · subst c0
    obtain ⟨e, e1, e2⟩ := f2 rfl
    have hF' := hF
    unfold CFk at hF'
    rw [if_pos rfl] at hF'
    rw [if_pos (show nI 0 = 0 from rfl), CCd_n hC (show 1 < b - a by omega), o_b1_s, r_1_0, k_2, o_g_t, e2]
    unfold m_66
    rw [if_neg (nI_pos (by omega)), if_neg (nI_ge (by omega) (by omega)), r_2_1, g_4 (by omega), o_g_t, i_cl (by omega), o_b1_s, o_b1_s, wp_s]
    have hst : stp S 0 c (b - a) = ((S.1.1, S.1.2.1, S.1.2.2.1, va_up S.1.2.2.2 e (c 1)), S.2) := by
      unfold stp
      rw [if_pos rfl, e2, i_cl (by omega)]
    refine Or.inl ⟨rfl, Or.inl rfl, ?_, ⟨fun x hx => up_ne (fun h => hx (Or.inl h)), fun j _ => by dsimp only; rw [up_ne (by decide)]⟩⟩
    rw [hst]
    refine ⟨hA, ⟨fun s hs => ?_, fun e' he' => ?_⟩, fun e' he' => ?_, hm, by dsimp only; rw [up_ne (by decide)]; exact hm3, fun k hk j hj => by dsimp only; rw [up_ne (by decide)]; exact hN k hk j hj⟩
    · exact CS_cong (fun _ _ => rfl) (up_ne (by omega)) (up_ne (by omega)) (up_ne (by omega)) (up_ne (by omega)) (hI.1 s hs)
    · dsimp only
      rw [up_eq]
      by_cases h : e' = e
      · rw [h, up_eq, up_eq]
      · rw [up_ne h, up_ne h]
        exact hI.2 e' he'
    · dsimp only
      by_cases h : e' = e
      · rw [h, up_eq]
        exact hF'.2.2
      · rw [up_ne h]
        exact hP e' he'
  · obtain ⟨s, s3, s1⟩ := f3 c0
    have s2 : s < 4 := by omega
    rw [if_neg (show ¬ nI kd = 0 by rw [i_e0 (by omega)]; exact c0), r_1_0, k_2, o_g_t, s1, c_96 s2, o_b1_s, if_neg (by omega), r_1_6, k_49, o_g_t]
    refine wp_b2 (wp_mono (c_38 (A := S.1) (by omega) h2 hA hI hC hF) ?_)
    rintro ⟨v, J⟩ ⟨fr, hO⟩
    dsimp only at fr hO ⊢
    have hIJ : CAs J S.1 := ⟨fun x hx => CS_cong (fun _ _ => rfl) (fr _ (by omega) (by omega) (by omega) (by omega) (by omega)) (fr _ (by omega) (by omega) (by omega) (by omega) (by omega)) (fr _ (by omega) (by omega) (by omega) (by omega) (by omega)) (fr _ (by omega) (by omega) (by omega) (by omega) (by omega)) (hI.1 x hx), fun e he => by rw [fr 4 (by decide) (by decide) (by decide) (by decide) (by decide)]; exact hI.2 e he⟩
    rcases hO with ⟨rfl, hno⟩ | ⟨rfl, n, r, D, hD, ok, hW, hCS⟩
    · rw [q_00, wp_s]
      refine Or.inr ⟨rfl, fun h => h.elim c0 hno, ⟨hA, hIJ, hP, hm, by dsimp only; rw [fr 2 (by decide) (by decide) (by decide) (by decide) (by decide)]; exact hm3, fun k hk j hj => by dsimp only; rw [fr 5 (by decide) (by decide) (by decide) (by decide) (by decide)]; exact hN k hk j hj⟩, ⟨fun x hx => fr x (by omega) (by omega) (by omega) (by omega) (by omega), fun j _ => by dsimp only; rw [fr 2 (by decide) (by decide) (by decide) (by decide) (by decide)]⟩⟩
    · obtain ⟨m1, m2, m3, m4, m5⟩ := mk0_s hD ok
      have hv := vc_s s2
      have hvs := hIJ.1 s s2
      have hW0 : WF n r (mk0 S.1 kd c (b - a)).2.2 := WF_cong m3 hW
      rw [if_neg (show ¬ nI 1 = 0 by decide), v_kd hv, o_g_t, r_49_0, k_50, o_g_t, hvs.2.2.1, hCS.2.2.1, hCS.1]
      have hJ23 : J 2 3 = nI S.2.1 := by rw [fr 2 (by decide) (by decide) (by decide) (by decide) (by decide)]; exact hm3
      refine wp_b1 (wp_mono (c_98 hm hJ23) ?_)
      rintro K ⟨k1, k2, k3, k4, k5, k6, k7, k8⟩
      have hCK : CS K 50 n r D := CS_cong (fun _ _ => rfl) (k1 _ (by decide) (by decide)) (k1 _ (by decide) (by decide)) (k1 _ (by decide) (by decide)) (k1 _ (by decide) (by decide)) hCS
      obtain ⟨M, e1, e2, e3⟩ := c_117 (t := t) (L := L) hv v50 (Or.inl (by omega)) hW hCK
      rw [e1, o_b1_s, wp_s]
      have hst : stp S kd c (b - a) = ((va_up S.1.1 s n, va_up S.1.2.1 s r, va_up S.1.2.2.1 s (mk0 S.1 kd c (b - a)).2.2, S.1.2.2.2), min 20 (S.2.1 + 1), nxn s n (BL (S.1.2.2.1 s)).length (BL (mk0 S.1 kd c (b - a)).2.2).length S.2.2) := by
        unfold stp
        rw [if_neg c0, s1, i_cl (by omega), m1, m2]
      refine Or.inl ⟨rfl, Or.inr ⟨n, r, D, hD, ok⟩, ?_, ⟨fun x hx => by dsimp only; rw [e2 x (by omega), k1 x (by omega) (by omega)]; exact fr x (by omega) (by omega) (by omega) (by omega) (by omega), fun j hj => by dsimp only; rw [e2 2 (by omega), k2 j hj, fr 2 (by decide) (by decide) (by decide) (by decide) (by decide)]⟩⟩
      rw [hst]
      refine ⟨WFA_s hA hW0, ⟨fun x hx => ?_, fun e he => ?_⟩, hP, by dsimp only; omega, by dsimp only; rw [e2 2 (by omega)]; exact k3, fun i hi j hj => ?_⟩
      · dsimp only
        by_cases h : x = s
        · subst h
          rw [up_eq, up_eq, up_eq]
          exact CS_cong m3 rfl rfl rfl rfl e3
        · rw [up_ne h, up_ne h, up_ne h]
          exact CS_cong (fun _ _ => rfl) ((e2 _ (by omega)).trans (k1 _ (by omega) (by omega))) ((e2 _ (by omega)).trans (k1 _ (by omega) (by omega))) ((e2 _ (by omega)).trans (k1 _ (by omega) (by omega))) ((e2 _ (by omega)).trans (k1 _ (by omega) (by omega))) (hIJ.1 x hx)
      · dsimp only
        rw [e2 4 (by omega), k1 4 (by decide) (by decide)]
        exact hIJ.2 e he
      · dsimp only at hi ⊢
        rw [e2 5 (by omega)]
        unfold nxn
        by_cases h0 : i = 0
        · subst h0
          rw [if_pos rfl]
          match j, hj with
          | 0, _ => exact k4
          | 1, _ => exact k5
          | 2, _ => exact k6.trans (by rw [BL_cong m3]; rfl)
          | 3, _ => exact k7
        · rw [if_neg h0, k8 _ (by omega) (by omega), show 4 * i + j - 4 = 4 * (i - 1) + j by omega, fr 5 (by decide) (by decide) (by decide) (by decide) (by decide)]
          exact hN (i - 1) (by omega) j hj
