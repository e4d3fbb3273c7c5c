/-! Calls keep, undo: the two banks. -/
def FB (I : ai_I) (B s : Nat) : Nat → Int32 := fun k => I 76 (B + 258 * s + 2 + k)
/-- the bank of cells th tells the same as the reference's part that begins at B -/
def BK (I : ai_I) (th B : Nat) : Prop := (∀ s, s < 4 → ∃ n r, WF n r (FB I B s) ∧ CS I (th + 4 + 4 * s) n r (FB I B s) ∧ I 76 (B + 258 * s) = nI n ∧ I 76 (B + 258 * s + 1) = nI r) ∧ PR I (th + 2) (B + 1032) ∧ XR I th (B + 1040) ∧ PA I th (th + 3) (B + 1041)
theorem BK_tr {I K : ai_I} {th o B A : Nat} (h : BK I o A) (e : ∀ k, k < 1122 → K 76 (B + k) = I 76 (A + k)) (eS : ∀ s, s < 4 → ∀ n r, WF n r (FB I A s) → CS I (o + 4 + 4 * s) n r (FB I A s) → I 76 (A + 258 * s) = nI n → I 76 (A + 258 * s + 1) = nI r → CS K (th + 4 + 4 * s) n r (FB I A s)) (eP : ∀ x, x < 8 → K (th + 2) x = I (o + 2) x) (eA : ∀ x, x < 80 → K (th + 3) x = I (o + 3) x) (e3 : K th 3 = I o 3) (e4 : K th 4 = I o 4) : BK K th B := by
  obtain ⟨h1, h2, ⟨x, x1, x2, x3⟩, m, m1, m2, m3, m4⟩ := h
  refine ⟨fun s hs => ?_, fun y hy => ?_, ⟨x, x1, e4.trans x2, (e 1040 (by decide)).trans x3⟩, m, m1, e3.trans m2, (e 1041 (by decide)).trans m3, fun k hk j hj => ?_⟩
  · obtain ⟨n, r, a1, a2, a3, a4⟩ := h1 s hs
    have hV : ∀ k, k < 256 → FB I A s k = FB K B s k := fun k hk => by
      have e5 := e (258 * s + 2 + k) (by omega)
      rw [← Nat.add_assoc, ← Nat.add_assoc, ← Nat.add_assoc, ← Nat.add_assoc] at e5
      exact e5.symm
    refine ⟨n, r, WF_cong hV a1, CS_cong hV rfl rfl rfl rfl (eS s hs n r a1 a2 a3 a4), (e (258 * s) (by omega)).trans a3, ?_⟩
    have e5 := e (258 * s + 1) (by omega)
    rw [← Nat.add_assoc, ← Nat.add_assoc] at e5
    exact e5.trans a4
  · have e5 := e (1032 + y) (by omega)
    rw [← Nat.add_assoc, ← Nat.add_assoc] at e5
    rw [eP y hy, e5]
    exact h2 y hy
  · have e5 := e (1041 + 1 + 4 * (m - 1 - k) + j) (by omega)
    rw [show B + (1041 + 1 + 4 * (m - 1 - k) + j) = B + 1041 + 1 + 4 * (m - 1 - k) + j by omega, show A + (1041 + 1 + 4 * (m - 1 - k) + j) = A + 1041 + 1 + 4 * (m - 1 - k) + j by omega] at e5
    rw [eA _ (by omega), e5]
    exact m4 k hk j hj
theorem bk_take {I : ai_I} {t L th o a b : Nat} (ht : (th = 2 ∧ o = 22) ∨ (th = 22 ∧ o = 2)) (ha : a < 3) (hb : b < 3) (hab : ¬ a = b) (h : BK I o (1122 * a)) : ∃ J, m_100 th o I (Rc t) (Gc L) = some J ∧ (∀ c, (c < th ∨ th + 20 ≤ c) → J c = I c) ∧ ∀ J1 : ai_I, (∀ c, 2 ≤ c → c < 42 → J1 c = J c) → J1 76 = J 76 → ∃ K, m_194 75 (nI a) (nI b) J1 (Rc t) (Gc L) = some K ∧ (∀ c, ¬ c = 76 → K c = J1 c) ∧ BK K th (1122 * b) ∧ BK K o (1122 * a) := by
  have hN : ∀ s, s < 4 → ∀ n r, WF n r (FB I (1122 * a) s) → I 76 (1122 * a + 258 * s) = nI n → I 76 (1122 * a + 258 * s + 1) = nI r → (I 76 (1122 * a + 258 * s)).toNatClampNeg = n ∧ (I 76 (1122 * a + 258 * s + 1)).toNatClampNeg = r := fun s hs n r w e1 e2 => by
    have w1 := w.1
    have w2 := w.2.1
    have w3 := w.2.2.2.1
    rw [e1, e2, i_cl (by omega), i_cl (by omega)]
    exact ⟨rfl, rfl⟩
  obtain ⟨J, j1, j2, j3, j4, j5, j6, j7⟩ := c_100 (I := I) (t := t) (L := L) (N := fun s => (I 76 (1122 * a + 258 * s)).toNatClampNeg) (R := fun s => (I 76 (1122 * a + 258 * s + 1)).toNatClampNeg) (V := fun s => FB I (1122 * a) s) ht (fun s hs => by
    obtain ⟨n, r, a1, a2, a3, a4⟩ := h.1 s hs
    have e := hN s hs n r a1 a3 a4
    show WF (I 76 (1122 * a + 258 * s)).toNatClampNeg (I 76 (1122 * a + 258 * s + 1)).toNatClampNeg _ ∧ CS _ _ (I 76 (1122 * a + 258 * s)).toNatClampNeg (I 76 (1122 * a + 258 * s + 1)).toNatClampNeg _
    rw [e.1, e.2]
    exact ⟨a1, a2⟩)
  refine ⟨J, j1, j2, fun J1 f1 f2 => ?_⟩
  obtain ⟨K, k1, k2, k3, k4⟩ := s_194 (I := J1) (t := t) (L := L) ha hb hab
  have hto : 2 ≤ th ∧ th + 20 ≤ 42 ∧ 2 ≤ o ∧ o + 20 ≤ 42 ∧ (o + 20 ≤ th ∨ th + 20 ≤ o) := by
    rcases ht with ⟨rfl, rfl⟩ | ⟨rfl, rfl⟩ <;> decide
  have kc : ∀ c, 2 ≤ c → c < 42 → K c = J c := fun c h1 h2 => (k2 c (by omega)).trans (f1 c h1 h2)
  have h76 : J1 76 = I 76 := f2.trans (j2 76 (by omega))
  refine ⟨K, k1, k2, ?_, ?_⟩
  · refine BK_tr h (fun k hk => (k4 k hk).trans (by rw [h76])) (fun s hs n r a1 a2 a3 a4 => ?_) (fun x hx => ?_) (fun x hx => ?_) ?_ ?_
    · have e := hN s hs n r a1 a3 a4
      have c := j3 s hs
      rw [e.1, e.2] at c
      exact CS_cong (fun _ _ => rfl) (kc _ (by omega) (by omega)) (kc _ (by omega) (by omega)) (kc _ (by omega) (by omega)) (kc _ (by omega) (by omega)) c
    · rw [kc _ (by omega) (by omega)]
      exact j4 x hx
    · rw [kc _ (by omega) (by omega)]
      exact j5 x hx
    · rw [kc _ (by omega) (by omega)]
      exact j6
    · rw [kc _ (by omega) (by omega)]
      exact j7
  · have ko : ∀ c, o ≤ c → c < o + 20 → K c = I c := fun c h1 h2 => (kc c (by omega) (by omega)).trans (j2 c (by omega))
    refine BK_tr h (fun k hk => ?_) (fun s hs n r a1 a2 a3 a4 => CS_cong (fun _ _ => rfl) (ko _ (by omega) (by omega)) (ko _ (by omega) (by omega)) (ko _ (by omega) (by omega)) (ko _ (by omega) (by omega)) a2) (fun x hx => by rw [ko _ (by omega) (by omega)]) (fun x hx => by rw [ko _ (by omega) (by omega)]) (by rw [ko _ (by omega) (by omega)]) (by rw [ko _ (by omega) (by omega)])
    rw [k3 _ (by omega), h76]
theorem FB_0 {I : ai_I} {s k : Nat} : FB I 0 s k = FV I s k := by
  show I 76 (0 + 258 * s + 2 + k) = I 76 (258 * s + 2 + k)
  rw [Nat.zero_add]
theorem BK_st {I : ai_I} (h : ST I) : BK I 2 0 := by
  refine ⟨fun s hs => ?_, h.2.2.1, h.2.2.2.1, h.2.2.2.2.1⟩
  obtain ⟨n, r, a1, a2, a3, a4⟩ := h.1 s hs
  exact ⟨n, r, WF_cong (fun k _ => FB_0.symm) a1, CS_cong (fun k _ => FB_0.symm) rfl rfl rfl rfl a2, by rw [Nat.zero_add]; exact a3, by rw [Nat.zero_add]; exact a4⟩
theorem ST_bk {K : ai_I} (h : BK K 2 0) (h2 : BK K 22 1122) (e1 : K 1 2 = nI 1) (e2 : K 75 1 = nI 1) (h3 : TA K) : ST K := by
  refine ⟨fun s hs => ?_, ⟨e1.trans e2.symm, Or.inr ⟨e1, h2.1, h2.2.1, h2.2.2.1, h2.2.2.2⟩⟩, h.2.1, h.2.2.1, h.2.2.2, h3⟩
  obtain ⟨n, r, a1, a2, a3, a4⟩ := h.1 s hs
  rw [Nat.zero_add] at a3 a4
  exact ⟨n, r, WF_cong (fun k _ => FB_0) a1, CS_cong (fun k _ => FB_0) rfl rfl rfl rfl a2, a3, a4⟩
theorem op_keep {I : ai_I} {t L : Nat} (h : ST I) : OPw I (m_179 1 I (Rc t) (Gc L)) (fun I1 => m_328 75 I1 (Rc t) (Gc L)) := by
  obtain ⟨J, j1, j2, j3⟩ := bk_take (I := I) (t := t) (L := L) (th := 22) (o := 2) (a := 0) (b := 1) (Or.inr ⟨rfl, rfl⟩) (by decide) (by decide) (by decide) (BK_st h)
  obtain ⟨K, k1, k2, k3, k4⟩ := j3 (va_up (va_up J 1 (va_up (J 1) 2 (nI 1))) 75 (va_up ((va_up J 1 (va_up (J 1) 2 (nI 1))) 75) 1 (nI 1))) (fun c h1 h2 => by rw [up_ne (by omega), up_ne (by omega)]) (by rw [up_ne (by decide), up_ne (by decide)])
  refine ⟨nI 0, va_up J 1 (va_up (J 1) 2 (nI 1)), K, ?_, ?_, ?_, ?_, by rw [up_ne (by decide), j2 1999 (by decide)]⟩
  · show o_g (o_kd (Gc L) 22 6) (o_b1 (m_100 22 2 I (Rc t) (Gc L)) _) = _
    rw [j1, o_b1_s]
    rfl
  · show o_b1 (some _) _ = _
    rw [o_b1_s, k1, o_b1_s]
  · refine ST_bk k4 k3 ?_ ?_ ?_
    · rw [k2 _ (by decide), up_ne (by decide), up_eq, up_eq]
    · rw [k2 _ (by decide), up_eq, up_eq]
    · refine TA_of ?_ ?_ ?_ ?_ h.2.2.2.2.2
      · rw [k2 _ (by decide), up_ne (by decide), up_eq, up_ne (by decide), j2 _ (by decide)]
      · rw [k2 _ (by decide), up_eq, up_ne (by decide), up_ne (by decide), j2 _ (by decide)]
      · rw [k2 _ (by decide), up_ne (by decide), up_ne (by decide), j2 _ (by decide)]
      · rw [k2 _ (by decide), up_ne (by decide), up_ne (by decide), j2 _ (by decide)]
  · rw [k2 _ (by decide), up_ne (by decide)]
theorem op_undo {I : ai_I} {t L : Nat} (h : ST I) : OPw I (m_180 1 I (Rc t) (Gc L)) (fun I1 => m_329 75 I1 (Rc t) (Gc L)) := by
  have e := h.2.1.1
  rcases h.2.1.2 with h0 | ⟨h0, h1, h2, h3, h4⟩
  · refine ⟨nI 0, I, I, ?_, ?_, h, rfl, rfl⟩
    · unfold m_180
      rw [if_pos (show I 1 2 = 0 from h0)]
    · show m_329 75 I (Rc t) (Gc L) = _
      unfold m_329
      rw [← e, if_pos (show I 1 2 = 0 from h0)]
  · obtain ⟨J, j1, j2, j3⟩ := bk_take (I := I) (t := t) (L := L) (th := 2) (o := 22) (a := 1) (b := 0) (Or.inl ⟨rfl, rfl⟩) (by decide) (by decide) (by decide) ⟨h1, h2, h3, h4⟩
    obtain ⟨K, k1, k2, k3, k4⟩ := j3 J (fun _ _ _ => rfl) rfl
    have n0 : ¬ nI 1 = (0 : Int32) := by decide
    refine ⟨nI 1, J, K, ?_, ?_, ?_, ?_, j2 1999 (by decide)⟩
    · unfold m_180
      rw [h0, if_neg n0]
      show o_g (o_kd (Gc L) 2 6) (o_b1 (m_100 2 22 I (Rc t) (Gc L)) _) = _
      rw [j1, o_b1_s]
      rfl
    · show m_329 75 J (Rc t) (Gc L) = _
      unfold m_329
      rw [j2 75 (by decide), ← e, h0, if_neg n0, k1, o_b1_s]
    · refine ST_bk k3 k4 ?_ ?_ ?_
      · rw [k2 _ (by decide), j2 1 (by decide), h0]
      · rw [k2 _ (by decide), j2 75 (by decide), ← e, h0]
      · refine TA_of ?_ ?_ ?_ ?_ h.2.2.2.2.2
        · rw [k2 _ (by decide), j2 1 (by decide)]
        · rw [k2 _ (by decide), j2 75 (by decide)]
        · rw [k2 _ (by decide), j2 42 (by decide)]
        · rw [k2 _ (by decide), j2 77 (by decide)]
    · rw [k2 _ (by decide)]
