/-! A number is read, by the reference. -/
def RF (K0 K : ai_I) : Prop := (∀ c, ¬ c = 75 → ¬ c = 80 → K c = K0 c) ∧ ∀ j, ¬ j = 4 → ¬ j = 6 → ¬ j = 7 → ¬ j = 8 → ¬ j = 11 → K 75 j = K0 75 j
def RM (K0 K : ai_I) (p f : Nat) (N : Nat → Int32) : Prop := RF K0 K ∧ K 75 4 = nI p ∧ K 75 11 = nI f ∧ ∀ k, k < f → K 80 k = N k
def RL (K0 : ai_I) (n : Nat) (q : Int32) (K : ai_I) : RS → Prop
  | .inl e => q = nI 0 ∧ K 75 6 = e ∧ RF K0 K
  | .inr (p, f, N) => q = nI 1 ∧ p ≤ n ∧ 2 * f ≤ p ∧ RM K0 K p f N
def TR (I : ai_I) (T : Nat → Nat) (n : Nat) : Prop := I 75 5 = nI n ∧ n ≤ 200 ∧ ∀ k, k < n → T k < 256 ∧ I 77 k = (nI (T k)).toInt8.toInt32
theorem b255 : ∀ b, b < 256 → (nI b).toInt8.toInt32 &&& nI 255 = nI b := by decide +kernel
theorem RF_up {K0 K : ai_I} {j : Nat} {x : Int32} (h : RF K0 K) (hj : j = 4 ∨ j = 6 ∨ j = 7 ∨ j = 8 ∨ j = 11) : RF K0 (va_up K 75 (va_up (K 75) j x)) := ⟨fun c c1 c2 => by rw [up_ne c1]; exact h.1 c c1 c2, fun i i1 i2 i3 i4 i5 => by rw [up_eq, up_ne (by omega)]; exact h.2 i i1 i2 i3 i4 i5⟩
theorem RM_up {K0 K : ai_I} {p f j : Nat} {x : Int32} {N : Nat → Int32} (h : RM K0 K p f N) (hj : j = 6 ∨ j = 7 ∨ j = 8) : RM K0 (va_up K 75 (va_up (K 75) j x)) p f N := ⟨RF_up h.1 (by omega), by rw [up_eq, up_ne (by omega)]; exact h.2.1, by rw [up_eq, up_ne (by omega)]; exact h.2.2.1, fun k hk => by rw [up_ne (by decide)]; exact h.2.2.2 k hk⟩
theorem RM_p {K0 K : ai_I} {p f q : Nat} {N : Nat → Int32} (h : RM K0 K p f N) : RM K0 (va_up K 75 (va_up (K 75) 4 (nI q))) q f N := ⟨RF_up h.1 (by omega), by rw [up_eq, up_eq], by rw [up_eq, up_ne (by omega)]; exact h.2.2.1, fun k hk => by rw [up_ne (by decide)]; exact h.2.2.2 k hk⟩
theorem s_208 {K0 K : ai_I} {t L n p f : Nat} {T : Nat → Nat} {N : Nat → Int32} (hT : TR K0 T n) (hp : p ≤ n) (h : RM K0 K p f N) : m_208 75 K (Rc t) (Gc L) = some (sgI T n p) := by
  obtain ⟨t1, t2, t3⟩ := hT
  obtain ⟨h1, h2, h3, h4⟩ := h
  unfold m_208 sgI
  rw [h1.2 5 (by decide) (by decide) (by decide) (by decide) (by decide), t1, h2, r_75_2]
  by_cases c : p < n
  · rw [if_neg (nI_ge c (by omega)), if_pos c, g_77 (by omega), o_g_t, i_cl (by omega), h1.1 77 (by decide) (by decide), (t3 p c).2, b255 _ (t3 p c).1]
  · rw [if_pos (nI_le (by omega) (by omega)), if_neg c]
theorem s_209 {K : ai_I} (c p : Nat) : m_209 75 (nI c) (nI p) K = some (nI 0, va_up K 75 (va_up (K 75) 6 (fa c p))) := rfl
theorem bz0 : o_bz (nI 0) = true := by decide
theorem bz1 : o_bz (nI 1) = true := by decide
theorem s_dg {T : Nat → Nat} {n p : Nat} (hT : ∀ k, k < n → T k < 256) : m_189 (sgI T n p).toInt64 (48 : Int64) (57 : Int64) = some (bz (dgt T n p = true)) := by
  have l1 : (48 : Int64) = (nI 48).toInt64 := by decide +kernel
  have l2 : (57 : Int64) = (nI 57).toInt64 := by decide +kernel
  rw [l1, l2, s_189i]
  exact congrArg some (bz_c ((sg_in hT (by decide) (by decide)).trans dgt_i.symm))
theorem RL_e {K0 K : ai_I} {n p f c q : Nat} {N : Nat → Int32} (h : RM K0 K p f N) : RL K0 n (nI 0) (va_up K 75 (va_up (K 75) 6 (fa c q))) (.inl (fa c q)) := ⟨rfl, by rw [up_eq, up_eq], RF_up h.1 (by omega)⟩
/-- what is told of a number's reading -/
def RQ (K0 : ai_I) (n a : Nat) (r : Int32 × ai_I) (s : RS) : Prop := RL K0 n r.1 r.2 s ∧ ∀ x, s = .inr x → r.2 75 7 = lst s ∧ r.2 75 8 = nI a
def nxr (f : Nat) (N : Nat → Int32) : Int32 ⊕ (Int32 × Nat) → RS
  | .inl e => .inl e
  | .inr (v, q) => .inr (q, f + 1, va_up N f v)
theorem rn_nx {T : Nat → Nat} {n p f : Nat} {lo hi : Int32} {N : Nat → Int32} : rn T n lo hi (.inr (p, f, N)) = nxr f N (rdN T n lo hi p) := by
  unfold rn
  dsimp only
  cases rdN T n lo hi p with
  | inl e => rfl
  | inr y => rfl
theorem RQ_e {K0 K : ai_I} {n p f c q a : Nat} {N : Nat → Int32} (h : RM K0 K p f N) : RQ K0 n a (nI 0, va_up K 75 (va_up (K 75) 6 (fa c q))) (.inl (fa c q)) := ⟨RL_e h, fun x hx => by cases hx⟩
theorem s_212t {K0 K : ai_I} {t L n q a f : Nat} {T : Nat → Nat} {N : Nat → Int32} {lo hi : Int32} {w : Bool} (hT : TR K0 T n) (hq : q ≤ n) (hf : 2 * f + 1 ≤ q) (hf1 : f < 100) (h : RM K0 K q f N) (h8 : K 75 8 = nI a) : wp (m_212_j48 75 lo hi (Rc t) (Gc L) (nI w.toNat) K) (fun r => RQ K0 n a r (nxr f N (rdT T n lo hi a q w))) := by
  have hT3 : ∀ k, k < n → T k < 256 := fun k hk => (hT.2.2 k hk).1
  have hn := hT.2.1
  unfold m_212_j48
  rw [h.2.1, o_b1_s, s_208 hT hq h, o_b1_s, s_dg hT3, o_b1_s, q_bz]
  by_cases c : dgt T n q = true
  · have c0 : ¬ rnl (dgt T n) q 7 = 0 := fun e => rnl_end (P := dgt T n) 7 q (by omega) (by rw [e]; exact c)
    have fin : ∀ i K, i ≤ 7 → (∀ j, j < i → dgt T n (q + j) = true) → (i = 7 ∨ ¬ dgt T n (q + i) = true) → ¬ dgt T n (q + i) = true → q + i ≤ n → RM K0 K (q + i) f N → K 75 7 = nI (dv T q i) → K 75 8 = nI a → wp (m_212_x86_157 75 lo hi (Rc t) (Gc L) (nI w.toNat) K) (fun r => RQ K0 n a r (nxr f N (rdT T n lo hi a q w))) := fun i K h7 hd he hnd hl hK k7 k8 => by
      have e := rnl_is (P := dgt T n) 7 q i hd h7 he
      unfold rdT
      rw [if_neg c0, e, if_neg hnd]
      have last : ∀ M v, RM K0 M (q + i) f N → M 75 7 = v → M 75 8 = nI a → wp (m_212_j170 75 lo hi (Rc t) (Gc L) M) (fun r => RQ K0 n a r (nxr f N (if lo ≤ v ∧ v ≤ hi then .inr (v, q + i) else .inl (fa 3 a)))) := fun M v hM m7 m8 => by
        unfold m_212_j170
        rw [m7, s_189i, o_b1_s, q_bz]
        by_cases c3 : lo ≤ v ∧ v ≤ hi
        · have h15 : Rc t 75 15 = 80 := rfl
          rw [if_pos c3, if_pos c3, hM.2.2.1, h15, g_80 (by omega), o_g_t, o_b1_s, o_b1_s, i_cl (by omega), wp_s, up_ne (by decide), hM.2.2.1, i_add]
          refine ⟨⟨rfl, hl, by omega, ⟨⟨fun c c1 c2 => by dsimp only; rw [up_ne c1, up_ne c2]; exact hM.1.1 c c1 c2, fun j j1 j2 j3 j4 j5 => by dsimp only; rw [up_eq, up_ne j5]; exact hM.1.2 j j1 j2 j3 j4 j5⟩, by dsimp only; rw [up_eq, up_ne (by decide)]; exact hM.2.1, by dsimp only; rw [up_eq, up_eq], fun k hk => ?_⟩⟩, fun x hx => ⟨?_, ?_⟩⟩
          · dsimp only
            rw [up_ne (by decide), up_eq]
            by_cases e : k = f
            · rw [e, up_eq, up_eq]
            · rw [up_ne e, up_ne e]
              exact hM.2.2.2 k (by omega)
          · dsimp only
            rw [up_eq, up_ne (by decide), m7]
            show v = va_up N f v (f + 1 - 1)
            rw [Nat.add_sub_cancel, up_eq]
          · dsimp only
            rw [up_eq, up_ne (by decide), m8]
        · rw [if_neg c3, if_neg c3, m8, s_209, o_b2_s, bz0, o_g_t, wp_s]
          exact RQ_e hM
      unfold m_212_x86_157
      cases w with
      | false =>
        rw [if_pos (show nI false.toNat = 0 from rfl), if_neg (show ¬ false = true by decide)]
        exact last K _ hK k7 k8
      | true =>
        rw [if_neg (show ¬ nI (true.toNat) = 0 by decide), if_pos rfl, o_b1_s]
        exact last _ _ (RM_up hK (by omega)) (by rw [up_eq, up_eq, k7]) (by rw [up_eq, up_ne (by decide), k8])
    rw [if_pos c, o_b1_s]
    refine wp_s2 (wp_lp (fun i s => (∀ j, j < i → dgt T n (q + j) = true) ∧ q + i ≤ n ∧ RM K0 s (q + i) f N ∧ s 75 7 = nI (dv T q i) ∧ s 75 8 = nI a) 0 7 (Nat.zero_le _) (by omega) ⟨fun j hj => absurd hj (Nat.not_lt_zero _), hq, RM_up h (by omega), by rw [up_eq, up_eq]; rfl, by rw [up_eq, up_ne (by decide)]; exact h8⟩ ?_ ?_)
    · rintro i K hi ⟨g1, g2, g3, g4, g5⟩
      unfold m_212_b86
      rw [s_208 hT g2 g3, o_b1_s, s_dg hT3, o_b1_s, q_bz]
      by_cases c2 : dgt T n (q + i) = true
      · have c3 := c2
        rw [dgt_i] at c3
        rw [if_pos c2, g3.2.1, i_add, if_neg (show ¬ nI (q + i) = nI (q + 7) by rw [i_eq (by omega) (by omega)]; omega), o_b1_s, o_b1_s]
        have g3' := RM_p (q := q + (i + 1)) g3
        rw [up_eq, up_ne (by decide), g3.2.1, i_add, o_b1_s, wp_s, lq_l]
        refine ⟨fun j hj => ?_, by omega, ?_, ?_, ?_⟩
        · by_cases e : j = i
          · rw [e]
            exact c2
          · exact g1 j (by omega)
        · exact RM_p (RM_up g3 (by omega))
        · rw [g4]
          unfold sgI
          rw [if_pos c3.1, i_mul, i_add, i_sub (by omega), show dv T q (i + 1) = 10 * dv T q i + (T (q + i) - 48) from rfl]
          exact congrArg nI (by omega)
        · rw [up_eq, up_ne (by decide), up_ne (by decide)]
          exact g5
      · rw [if_neg c2, wp_s, lq_r, lq_r]
        exact fin i K (by omega) g1 (Or.inr c2) c2 g2 g3 g4 g5
    · rintro K ⟨g1, g2, g3, g4, g5⟩
      unfold m_212_b86
      rw [s_208 hT g2 g3, o_b1_s, s_dg hT3, o_b1_s, q_bz]
      by_cases c2 : dgt T n (q + 7) = true
      · rw [if_pos c2, g3.2.1, i_add, if_pos rfl, wp_s, lq_r, lq_l]
        unfold m_212_x86_115
        rw [g3.2.1, s_209, o_b2_s, bz0, o_g_t, wp_s]
        have e := rnl_is (P := dgt T n) 7 q 7 g1 (Nat.le_refl _) (Or.inl rfl)
        unfold rdT
        rw [if_neg c0, e, if_pos c2]
        exact RQ_e g3
      · rw [if_neg c2, wp_s, lq_r, lq_r]
        exact fin 7 K (Nat.le_refl _) g1 (Or.inl rfl) c2 g2 g3 g4 g5
  · rw [if_neg c, s_209, o_b2_s, bz0, o_g_t, wp_s]
    have e : rnl (dgt T n) q 7 = 0 := rnl_is 7 q 0 (fun j hj => absurd hj (Nat.not_lt_zero _)) (by omega) (Or.inr c)
    unfold rdT
    rw [if_pos e]
    exact RQ_e h
theorem s_212 {K0 K : ai_I} {t L n p f : Nat} {T : Nat → Nat} {N : Nat → Int32} {lo hi : Int32} (hT : TR K0 T n) (hp : p ≤ n) (hf : 2 * f ≤ p) (h : RM K0 K p f N) : wp (m_212 75 lo hi K (Rc t) (Gc L)) (fun r => RQ K0 n (p + 1) r (rn T n lo hi (.inr (p, f, N)))) := by
  have hT3 : ∀ k, k < n → T k < 256 := fun k hk => (hT.2.2 k hk).1
  have hn := hT.2.1
  rw [rn_nx]
  unfold m_212 m_210 rdN
  rw [s_208 hT hp h, o_b1_s]
  by_cases c : isA T n p 32 = true
  · have c' := (isA_i.1 c).1
    rw [if_pos ((sg_eq hT3 (by decide)).2 c), if_pos c, h.2.1, o_b1_s, i_add, o_b2_s, if_neg (by decide), o_b1_s, up_eq, up_eq]
    have h1 : RM K0 (va_up (va_up K 75 (va_up (K 75) 4 (nI (p + 1)))) 75 (va_up (va_up K 75 (va_up (K 75) 4 (nI (p + 1))) 75) 8 (nI (p + 1)))) (p + 1) f N := RM_up (RM_p h) (by omega)
    have h8 : va_up (va_up K 75 (va_up (K 75) 4 (nI (p + 1)))) 75 (va_up (va_up K 75 (va_up (K 75) 4 (nI (p + 1))) 75) 8 (nI (p + 1))) 75 8 = nI (p + 1) := by rw [up_eq, up_eq]
    rw [up_eq] at h1 h8
    rw [s_208 hT (by omega) h1, o_b1_s]
    by_cases c2 : isA T n (p + 1) 45 = true
    · have c2' := (isA_i.1 c2).1
      rw [if_pos ((sg_eq hT3 (by decide)).2 c2), if_pos c2]
      unfold m_212_j33
      rw [if_neg (by decide), o_b1_s, h1.2.1, i_add]
      exact s_212t (w := true) hT (by omega) (by omega) (by omega) (RM_p h1) (by rw [up_eq, up_ne (by decide)]; exact h8)
    · rw [if_neg (fun h => c2 ((sg_eq hT3 (by decide)).1 h)), if_neg c2]
      unfold m_212_j33
      rw [if_pos (show nI 0 = 0 from rfl)]
      exact s_212t (w := false) hT (by omega) (by omega) (by omega) h1 h8
  · rw [if_neg (fun h => c ((sg_eq hT3 (by decide)).1 h)), if_neg c, h.2.1, s_209, o_b2_s, bz0, o_g_t, o_b2_s, if_pos (show nI 0 = 0 from rfl), wp_s]
    exact RQ_e h
