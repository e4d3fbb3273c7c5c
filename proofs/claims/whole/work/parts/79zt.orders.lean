/-! Orders, in the reference; call orders. -/
def WFs (S : AST) : Prop := WFA S.1 ∧ S.2.1 ≤ 20
theorem WFs_s {S : AST} {kd cnt : Nat} {c : Nat → Int32} (h : WFs S) (hc : can S kd c cnt) (hF : CFk kd c cnt) (h2 : kd < 14) : WFs (stp S kd c cnt) := by
  unfold stp
  by_cases c0 : kd = 0
  · rw [if_pos c0]
    exact h
  · rw [if_neg c0]
    rcases hc with hc | ⟨n, r, D, hD, ok⟩
    · exact absurd hc c0
    · obtain ⟨m1, m2, m3, m4, m5⟩ := mk0_s hD ok
      rw [m1, m2]
      refine ⟨WFA_s h.1 (DW_WF (DRk_DW h.1 hF m4) m5), ?_⟩
      dsimp only
      omega
theorem WFs_q {C : CLS} {S : AST} (h : WFs S) (hf : CFs C.1 C.2.2.2.1 C.2.1 C.2.2.1 C.2.2.2.2) : ∀ k, k ≤ C.1 → (∀ j, j < k → cnk C S j) → WFs (sqn C S k)
  | 0, _, _ => h
  | k + 1, hk, hd => WFs_s (WFs_q h hf k (by omega) (fun j hj => hd j (by omega))) (hd k (by omega)) (hf k (by omega)).2.2.2 (hf k (by omega)).2.2.1
/-- what orders leaves alone in the reference -/
def RFo (I K : ai_I) : Prop := (∀ c, ¬ (75 ≤ c ∧ c ≤ 82 ∧ ¬ c = 77) → K c = I c) ∧ K 75 1 = I 75 1 ∧ K 76 1040 = I 76 1040 ∧ ∀ j, 1122 ≤ j → K 76 j = I 76 j
theorem s_218 {I : ai_I} {J : ai_J} {t L n x : Nat} {T : Nat → Nat} {S : AST} {M : Nat} (hM : M = 16) (hn1 : 1 ≤ n) (hn : n ≤ 200) (hx : I 75 3 = nI x) (hx2 : x ≤ 240) (hnx : n ≤ x) (hT : ∀ k, k < n → T k < 256 ∧ I 77 k = (nI (T k)).toInt8.toInt32) (hW : WFs S) (hS : RAF I S) : wp (m_218 75 (nI n) I J (Rc t) (Gc L)) (fun q => RFo I q.2.1 ∧ q.2.1 75 3 = nI 0 ∧ match rtx T n M with
    | .inl e => q.1 = e ∧ RAF q.2.1 S
    | .inr (m, ks, st, _, f, N) => ∃ k, q.1 = nI k ∧ dnk (m, ks, st, f, N) S k ∧ RAF q.2.1 (sqn (m, ks, st, f, N) S k)) := by
  have l1 : (1 : Int64) = (nI 1).toInt64 := by decide +kernel
  have l2 : (200 : Int64) = (nI 200).toInt64 := by decide +kernel
  unfold m_218
  rw [l1, l2, s_189i, o_b1_s, q_bz, if_pos ⟨nI_le hn1 (by omega), nI_le hn (by omega)⟩, hx, if_pos (nI_le hnx (by omega))]
  simp only [o_b1_s]
  generalize hI' : va_up (va_up (va_up (va_up (va_up I 75 (va_up (I 75) 4 (nI 0))) 75 (va_up (va_up I 75 (va_up (I 75) 4 (nI 0)) 75) 5 (nI n))) 75 (va_up (va_up (va_up I 75 (va_up (I 75) 4 (nI 0))) 75 (va_up (va_up I 75 (va_up (I 75) 4 (nI 0)) 75) 5 (nI n)) 75) 3 (nI 0))) 75 (va_up (va_up (va_up (va_up I 75 (va_up (I 75) 4 (nI 0))) 75 (va_up (va_up I 75 (va_up (I 75) 4 (nI 0)) 75) 5 (nI n))) 75 (va_up (va_up (va_up I 75 (va_up (I 75) 4 (nI 0))) 75 (va_up (va_up I 75 (va_up (I 75) 4 (nI 0)) 75) 5 (nI n)) 75) 3 (nI 0)) 75) 10 (nI 0))) 75 (va_up (va_up (va_up (va_up (va_up I 75 (va_up (I 75) 4 (nI 0))) 75 (va_up (va_up I 75 (va_up (I 75) 4 (nI 0)) 75) 5 (nI n))) 75 (va_up (va_up (va_up I 75 (va_up (I 75) 4 (nI 0))) 75 (va_up (va_up I 75 (va_up (I 75) 4 (nI 0)) 75) 5 (nI n)) 75) 3 (nI 0))) 75 (va_up (va_up (va_up (va_up I 75 (va_up (I 75) 4 (nI 0))) 75 (va_up (va_up I 75 (va_up (I 75) 4 (nI 0)) 75) 5 (nI n))) 75 (va_up (va_up (va_up I 75 (va_up (I 75) 4 (nI 0))) 75 (va_up (va_up I 75 (va_up (I 75) 4 (nI 0)) 75) 5 (nI n)) 75) 3 (nI 0)) 75) 10 (nI 0)) 75) 11 (nI 0)) = I'
  have i0 : ∀ c, ¬ c = 75 → I' c = I c := fun c hc => by rw [← hI', up_ne hc, up_ne hc, up_ne hc, up_ne hc, up_ne hc]
  have ij : I' 75 = va_up (va_up (va_up (va_up (va_up (I 75) 4 (nI 0)) 5 (nI n)) 3 (nI 0)) 10 (nI 0)) 11 (nI 0) := by rw [← hI']; simp only [up_eq]
  have hTR : TR I' T n := ⟨by rw [ij, up_ne (by decide), up_ne (by decide), up_ne (by decide), up_eq], hn, fun k hk => ⟨(hT k hk).1, by rw [i0 77 (by decide)]; exact (hT k hk).2⟩⟩
  have i1 : I' 75 1 = I 75 1 := by rw [ij, up_ne (by decide), up_ne (by decide), up_ne (by decide), up_ne (by decide), up_ne (by decide)]
  have i3 : I' 75 3 = nI 0 := by rw [ij, up_ne (by decide), up_ne (by decide), up_eq]
  have rf : ∀ K, RFR I' K → RFo I K ∧ K 75 3 = nI 0 ∧ RAF K S := fun K hF => by
    have k76 : K 76 = I 76 := by rw [hF.1 76 (by decide) (by decide) (by decide), i0 76 (by decide)]
    refine ⟨⟨fun c hc => by rw [hF.1 c (by omega) (by omega) (by omega), i0 c (by omega)], by rw [hF.2 1 (by decide) (by decide) (by decide) (by decide) (by decide) (by decide) (by decide), i1], by rw [k76], fun j _ => by rw [k76]⟩, by rw [hF.2 3 (by decide) (by decide) (by decide) (by decide) (by decide) (by decide) (by decide), i3], ?_⟩
    unfold RAF RAs FV RP at hS ⊢
    rw [k76]
    exact hS
  refine s_218r hM hTR (by rw [ij, up_ne (by decide), up_ne (by decide), up_ne (by decide), up_ne (by decide), up_eq]) (by rw [ij, up_ne (by decide), up_eq]) (by rw [ij, up_eq]) ?_
  intro v K J2 hR
  unfold m_218_x52_92
  dsimp only
  cases hr : rtx T n M with
  | inl e =>
    rw [hr] at hR
    obtain ⟨rfl, hF, h6⟩ := hR
    obtain ⟨r1, r2, r3⟩ := rf K hF
    rw [q_00, wp_s]
    exact ⟨r1, r2, h6, r3⟩
  | inr y =>
    obtain ⟨m, ks, st, q, f, N⟩ := y
    rw [hr] at hR
    obtain ⟨rfl, hF, h10, hm, hk, h11, hf, h80⟩ := hR
    obtain ⟨r1, r2, r3⟩ := rf K hF
    have hfs := rtx_f hr
    rw [if_neg (show ¬ nI 1 = 0 by decide)]
    -- the memory of a later time
    have rfo : ∀ P, DRf K P → RFo I P ∧ P 75 3 = nI 0 := fun P hP => ⟨⟨fun c hc => by rw [hP.1 c (by omega) (by omega) (by omega) (by omega)]; exact r1.1 c hc, by rw [hP.2.1 1 (by decide) (by decide)]; exact r1.2.1, by rw [hP.2.2.1]; exact r1.2.2.1, fun j hj => by rw [hP.2.2.2 j hj]; exact r1.2.2.2 j hj⟩, by rw [hP.2.1 3 (by decide) (by decide)]; exact r2⟩
    have drf_t : ∀ P P2, DRf K P → DRf P P2 → DRf K P2 := fun P P2 hp hp2 => ⟨fun c c1 c2 c3 c4 => (hp2.1 c c1 c2 c3 c4).trans (hp.1 c c1 c2 c3 c4), fun j j1 j2 => (hp2.2.1 j j1 j2).trans (hp.2.1 j j1 j2), hp2.2.2.1.trans hp.2.2.1, fun j hj => (hp2.2.2.2 j hj).trans (hp.2.2.2 j hj)⟩
    refine wp_s1 (wp_lp (fun k s => s.1 = nI k ∧ (∀ j, j < k → cnk (m, ks, st, f, N) S j) ∧ RAF s.2 (sqn (m, ks, st, f, N) S k) ∧ DRf K s.2) 0 m (Nat.zero_le _) (by omega) ⟨rfl, fun j hj => absurd hj (Nat.not_lt_zero _), r3, ⟨fun _ _ _ _ _ => rfl, fun _ _ _ => rfl, rfl, fun _ _ => rfl⟩⟩ ?_ ?_)
    · rintro k ⟨v, P⟩ hkm ⟨g1, g2, g3, g4⟩
      dsimp only at g1 g3 g4
      subst g1
      have hWk := WFs_q (C := (m, ks, st, f, N)) hW hfs k (by dsimp only; omega) g2
      obtain ⟨e1, e2, e3, e4⟩ := hfs k hkm
      have p10 : P 75 10 = nI m := by rw [g4.2.1 10 (by decide) (by decide)]; exact h10
      have p11 : P 75 11 = nI f := by rw [g4.2.1 11 (by decide) (by decide)]; exact h11
      have p79 : P 79 = K 79 := g4.1 79 (by decide) (by decide) (by decide) (by decide)
      have p80 : P 80 = K 80 := g4.1 80 (by decide) (by decide) (by decide) (by decide)
      unfold m_218_b103
      dsimp only
      rw [if_neg (show ¬ P 75 10 ≤ nI k by rw [p10]; exact nI_ge hkm (by omega))]
      refine wp_b2 (wp_mono (s_241 (c := ckn (m, ks, st, f, N) k) (b := enk m f st k) (S := sqn (m, ks, st, f, N) S k) e3 (by omega) hWk.1 hWk.2 g3 ⟨e1, by omega, fun i hi => by rw [p80]; exact h80 _ (by omega)⟩ e4 (hk k hkm).1 (by rw [p79]; exact (hk k hkm).2.2) ?_) ?_)
      · unfold enk
        rw [p10, p11]
        by_cases c : k + 1 = m
        · exact Or.inl ⟨nI_le (by omega) (by omega), by rw [if_pos c]⟩
        · exact Or.inr ⟨nI_ge (by omega) (by omega), by omega, by rw [if_neg c, p79]; exact (hk (k + 1) (by omega)).2.2⟩
      · rintro ⟨v, P2⟩ (⟨rfl, y1, y2, y3⟩ | ⟨rfl, y1, y2, y3⟩)
        · dsimp only
          rw [if_neg (show ¬ nI 1 = 0 by decide), i_add, o_b1_s, wp_s, lq_l]
          refine ⟨rfl, fun j hj => ?_, y2, drf_t _ _ g4 y3⟩
          by_cases e : j = k
          · rw [e]
            exact y1
          · exact g2 j (by omega)
        · dsimp only
          obtain ⟨z1, z2⟩ := rfo P2 (drf_t _ _ g4 y3)
          rw [q_00, wp_s, lq_r]
          unfold m_218_x103_126
          rw [wp_s]
          exact ⟨z1, z2, k, rfl, ⟨by dsimp only; omega, g2, Or.inr y1⟩, y2⟩
    · rintro ⟨v, P⟩ ⟨g1, g2, g3, g4⟩
      dsimp only at g1 g3 g4
      subst g1
      obtain ⟨z1, z2⟩ := rfo P g4
      have p10 : P 75 10 = nI m := by rw [g4.2.1 10 (by decide) (by decide)]; exact h10
      unfold m_218_b103
      dsimp only
      rw [if_pos (show P 75 10 ≤ nI m by rw [p10]; exact Int32.le_refl _), wp_s, lq_r]
      unfold m_218_x103_126
      rw [wp_s]
      exact ⟨z1, z2, m, rfl, ⟨Nat.le_refl _, g2, Or.inl rfl⟩, g3⟩
/-- what is kept, from one memory to another -/
theorem ST2_f {I K : ai_I} (h : ST2 I) (h1 : K 1 2 = I 1 2) (h2 : K 75 1 = I 75 1) (h3 : ∀ c, 22 ≤ c → c < 43 → K c = I c) (h4 : ∀ j, 1122 ≤ j → K 76 j = I 76 j) : ST2 K := by
  refine ⟨by rw [h1, h2]; exact h.1, ?_⟩
  rw [h1]
  rcases h.2 with h | ⟨h, k1, k2, k3, k4⟩
  · exact Or.inl h
  · refine Or.inr ⟨h, fun s hs => ?_, fun e he => ?_, ?_, ?_⟩
    · obtain ⟨n, r, q1, q2, q3, q4⟩ := k1 s hs
      have hV : ∀ k, k < 256 → FK I s k = FK K s k := fun k _ => (h4 _ (by omega)).symm
      exact ⟨n, r, WF_cong hV q1, CS_cong hV (h3 _ (by omega) (by omega)) (h3 _ (by omega) (by omega)) (h3 _ (by omega) (by omega)) (h3 _ (by omega) (by omega)) q2, by rw [h4 _ (by omega)]; exact q3, by rw [h4 _ (by omega)]; exact q4⟩
    · rw [h3 24 (by decide) (by decide), h4 _ (by omega)]
      exact k2 e he
    · obtain ⟨x, x1, x2, x3⟩ := k3
      exact ⟨x, x1, by rw [h3 22 (by decide) (by decide)]; exact x2, by rw [h4 _ (by omega)]; exact x3⟩
    · obtain ⟨m, x1, x2, x3, x4⟩ := k4
      exact ⟨m, x1, by rw [h3 22 (by decide) (by decide)]; exact x2, by rw [h4 _ (by omega)]; exact x3, fun k hk j hj => by rw [h3 25 (by decide) (by decide), h4 _ (by omega)]; exact x4 k hk j hj⟩
def S0f (I : ai_I) : AST := ((fun s => (I 76 (258 * s)).toNatClampNeg, fun s => (I 76 (258 * s + 1)).toNatClampNeg, FV I, I 4), (I 2 3).toNatClampNeg, fun k j => I 5 (4 * k + j))
theorem S0_ok {I : ai_I} (h : ST I) : CAF I (S0f I) ∧ RAF I (S0f I) := by
  obtain ⟨s1, -, s3, -, ⟨m, p1, p2, p3, p4⟩, -⟩ := h
  have hm : (S0f I).2.1 = m := by
    show (I 2 3).toNatClampNeg = m
    rw [p2, i_cl (by omega)]
  have sh : ∀ s, s < 4 → ∃ n r, (S0f I).1.1 s = n ∧ (S0f I).1.2.1 s = r ∧ WF n r (FV I s) ∧ CS I (6 + 4 * s) n r (FV I s) ∧ I 76 (258 * s) = nI n ∧ I 76 (258 * s + 1) = nI r := fun s hs => by
    obtain ⟨n, r, q1, q2, q3, q4⟩ := s1 s hs
    have h1 := q1.2.1
    have h2 := q1.2.2.2.1
    exact ⟨n, r, by show (I 76 (258 * s)).toNatClampNeg = n; rw [q3, i_cl (by omega)], by show (I 76 (258 * s + 1)).toNatClampNeg = r; rw [q4, i_cl (by omega)], q1, q2, q3, q4⟩
  refine ⟨⟨fun s hs => ?_, ⟨fun s hs => ?_, fun e _ => rfl⟩, fun e he => ⟨(s3 e he).2.1, (s3 e he).2.2⟩, by rw [hm]; exact p1, by rw [hm]; exact p2, fun k _ j _ => rfl⟩, ⟨fun s hs => ?_, fun e he => (s3 e he).1.symm⟩, by rw [hm]; exact p3, fun k hk j hj => ?_⟩
  · obtain ⟨n, r, q1, q2, q3, q4, q5, q6⟩ := sh s hs
    rw [q1, q2]
    exact q3
  · obtain ⟨n, r, q1, q2, q3, q4, q5, q6⟩ := sh s hs
    rw [q1, q2]
    exact q4
  · obtain ⟨n, r, q1, q2, q3, q4, q5, q6⟩ := sh s hs
    rw [q1, q2]
    exact ⟨q5, q6, fun _ _ => rfl⟩
  · rw [hm] at hk ⊢
    exact (p4 k hk j hj).symm
/-- the class's part and the reference's part of one and the same state -/
theorem ST_of {I K : ai_I} {S : AST} (hI : CAF I S) (hK : RAF K S) (h0 : ∀ c, c < 75 → K c = I c) (h2 : ST2 K) (hx : XR K 2 1040) (hT : TA K) : ST K := by
  obtain ⟨c1, ⟨c2, c2'⟩, c3, c4, c5, c6⟩ := hI
  obtain ⟨⟨r1, r2⟩, r3, r4⟩ := hK
  refine ⟨fun s hs => ?_, h2, fun e he => ?_, hx, ⟨S.2.1, c4, by rw [h0 2 (by decide)]; exact c5, r3, fun k hk j hj => ?_⟩, hT⟩
  · obtain ⟨q1, q2, q3⟩ := r1 s hs
    have e : ∀ k, k < 256 → S.1.2.2.1 s k = FV K s k := fun k hk => (q3 k hk).symm
    exact ⟨S.1.1 s, S.1.2.1 s, WF_cong e (c1 s hs), CS_cong e (h0 _ (by omega)) (h0 _ (by omega)) (h0 _ (by omega)) (h0 _ (by omega)) (c2 s hs), q1, q2⟩
  · rw [h0 4 (by decide), c2' e he]
    exact ⟨(r2 e he).symm, (c3 e he).1, (c3 e he).2⟩
  · rw [h0 5 (by decide), c6 k hk j hj]
    exact (r4 k hk j hj).symm
theorem op_orders {I : ai_I} {J : ai_J} {t L : Nat} (h : ST I) (x : Int32) : ∃ r I1 t2 I2 J2, m_139 1 x I (Rc t) (Gc L) = some (r, I1, Rc t2) ∧ m_218 75 x I1 J (Rc t2) (Gc L) = some (r, I2, J2) ∧ ST I2 ∧ I2 1999 = I 1999 ∧ I1 1999 = I 1999 := by
  have l1 : (1 : Int64) = (nI 1).toInt64 := by decide +kernel
  have l2 : (200 : Int64) = (nI 200).toInt64 := by decide +kernel
  have hST := h
  obtain ⟨s1, s2, s3, s4, s5, n0, t1, t2, t3, t4⟩ := h
  by_cases hx : (nI 1 ≤ x ∧ x ≤ nI 200) ∧ x ≤ nI n0
  · obtain ⟨n, n1, n2, rfl⟩ := in_nI (by decide) (by decide) hx.1.1 hx.1.2
    have n3 : n ≤ n0 := by
      have := hx.2
      rw [i_le (by omega) (by omega)] at this
      exact this
    have tt : ∀ k, k < n → ∃ b, b < 256 ∧ I 42 k = nI b ∧ I 77 k = (nI b).toInt8.toInt32 := fun k hk => t4 k (by omega)
    have hT : ∀ k, k < n → (fun k => (I 42 k).toNatClampNeg) k < 256 ∧ I 42 k = nI ((fun k => (I 42 k).toNatClampNeg) k) := fun k hk => by
      obtain ⟨b, b1, b2, -⟩ := tt k hk
      dsimp only
      rw [b2, i_cl (by omega)]
      exact ⟨b1, rfl⟩
    obtain ⟨hC, hR⟩ := S0_ok hST
    generalize hM : (16 : Nat) = M
    obtain ⟨⟨v, I1, R⟩, e1, e2, e3, e4, e5⟩ := c_139 (t := t) (L := L) hM.symm n1 n2 t2 t1 n3 hT hC
    dsimp only at e2 e3 e4 e5
    subst e2
    have k75 : ∀ c, 55 ≤ c → I1 c = I c := fun c hc => e3.1 c (by omega)
    have hT2 : ∀ k, k < n → (fun k => (I 42 k).toNatClampNeg) k < 256 ∧ I1 77 k = (nI ((fun k => (I 42 k).toNatClampNeg) k)).toInt8.toInt32 := fun k hk => by
      obtain ⟨b, b1, b2, b3⟩ := tt k hk
      dsimp only
      rw [b2, i_cl (by omega), k75 77 (by decide)]
      exact ⟨b1, b3⟩
    have hR1 : RAF I1 (S0f I) := by
      unfold RAF RAs FV RP at hR ⊢
      rw [k75 76 (by decide)]
      exact hR
    obtain ⟨⟨v2, I2, J2⟩, f1, f2, f3, f4⟩ := s_218 (I := I1) (J := J) (t := 42) (L := L) hM.symm n1 n2 (by rw [k75 75 (by decide)]; exact t3) t1 n3 hT2 ⟨hC.1, hC.2.2.2.1⟩ hR1
    dsimp only at f2 f3 f4
    have lo : ∀ c, c < 75 → I2 c = I1 c := fun c hc => f2.1 c (by omega)
    have hST2 : ST2 I2 := ST2_f s2 (by rw [lo 1 (by decide)]; exact e3.2.2 2 (by decide)) (by rw [f2.2.1, k75 75 (by decide)]) (fun c c1 c2 => (lo c (by omega)).trans (e3.1 c (by omega))) (fun j hj => by rw [f2.2.2.2 j hj, k75 76 (by decide)])
    have hXR : XR I2 2 1040 := by
      obtain ⟨y, y1, y2, y3⟩ := s4
      exact ⟨y, y1, by rw [lo 2 (by decide), e3.2.1 4 (by decide)]; exact y2, by rw [f2.2.2.1, k75 76 (by decide)]; exact y3⟩
    have hTA : TA I2 := ⟨0, by decide, by rw [lo 1 (by decide)]; exact e4, f3, fun k hk => absurd hk (Nat.not_lt_zero _)⟩
    have h99 : I2 1999 = I 1999 := by rw [f2.1 1999 (by omega), e3.1 1999 (by omega)]
    cases hr : rtx (fun k => (I 42 k).toNatClampNeg) n M with
    | inl e =>
      rw [hr] at e5 f4
      obtain ⟨rfl, c1⟩ := e5
      obtain ⟨rfl, c2⟩ := f4
      exact ⟨v2, I1, 42, I2, J2, e1, f1, ST_of c1 c2 lo hST2 hXR hTA, h99, e3.1 1999 (by omega)⟩
    | inr y =>
      obtain ⟨m, ks, st, q, f, N⟩ := y
      rw [hr] at e5 f4
      obtain ⟨k, rfl, d1, c1⟩ := e5
      obtain ⟨k2, rfl, d2, c2⟩ := f4
      obtain rfl := dnk_un d1 d2
      exact ⟨nI k, I1, 42, I2, J2, e1, f1, ST_of c1 c2 lo hST2 hXR hTA, h99, e3.1 1999 (by omega)⟩
  · refine ⟨-1, I, t, I, J, ?_, ?_, hST, rfl, rfl⟩
    · unfold m_139
      by_cases c1 : x < nI 1
      · rw [if_pos c1]
      · rw [if_neg c1]
        by_cases c2 : nI 200 < x
        · rw [if_pos c2]
        · rw [if_neg c2, t2, if_neg (fun h => hx ⟨⟨Int32.not_lt.1 c1, Int32.not_lt.1 c2⟩, h⟩)]
    · unfold m_218
      rw [l1, l2, s_189i, o_b1_s, q_bz]
      by_cases c : nI 1 ≤ x ∧ x ≤ nI 200
      · rw [if_pos c, t3, if_neg (fun h => hx ⟨c, h⟩)]
      · rw [if_neg c]
