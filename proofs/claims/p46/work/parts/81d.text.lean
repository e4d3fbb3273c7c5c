/-! Texts of numbers: what the law writes, the class reads. -/
/-- the number v stands at p, with a blank ahead, in l signs -/
def NUMT (T : Nat → Nat) (p l : Nat) (v : Int32) : Prop := T p = 32 ∧ ((∃ d, d < 10 ∧ v = nI d ∧ l = 2 ∧ T (p + 1) = 48 + d) ∨ (∃ d, 10 ≤ d ∧ d < 100 ∧ v = nI d ∧ l = 3 ∧ T (p + 1) = 48 + d / 10 ∧ T (p + 2) = 48 + d % 10) ∨ (∃ d, d < 10 ∧ v = -nI d ∧ l = 3 ∧ T (p + 1) = 45 ∧ T (p + 2) = 48 + d) ∨ (∃ d, 10 ≤ d ∧ d < 100 ∧ v = -nI d ∧ l = 4 ∧ T (p + 1) = 45 ∧ T (p + 2) = 48 + d / 10 ∧ T (p + 3) = 48 + d % 10))
theorem NUMT_l {T : Nat → Nat} {p l : Nat} {v : Int32} (h : NUMT T p l v) : 2 ≤ l ∧ l ≤ 4 := by
  rcases h.2 with ⟨d, -, -, h, -⟩ | ⟨d, -, -, -, h, -⟩ | ⟨d, -, -, h, -⟩ | ⟨d, -, -, -, h, -⟩ <;> omega
theorem NUMT_cong {T U : Nat → Nat} {p l : Nat} {v : Int32} (h : NUMT T p l v) (e : ∀ k, p ≤ k → k < p + l → U k = T k) : NUMT U p l v := by
  have hl := NUMT_l h
  obtain ⟨h0, h⟩ := h
  refine ⟨(e p (Nat.le_refl _) (by omega)).trans h0, ?_⟩
  rcases h with ⟨d, h1, h2, h3, h4⟩ | ⟨d, h1, h2, h3, h4, h5, h6⟩ | ⟨d, h1, h2, h3, h4, h5⟩ | ⟨d, h1, h2, h3, h4, h5, h6, h7⟩
  · exact Or.inl ⟨d, h1, h2, h3, by rw [e _ (by omega) (by omega)]; exact h4⟩
  · exact Or.inr (Or.inl ⟨d, h1, h2, h3, h4, by rw [e _ (by omega) (by omega)]; exact h5, by rw [e _ (by omega) (by omega)]; exact h6⟩)
  · exact Or.inr (Or.inr (Or.inl ⟨d, h1, h2, h3, by rw [e _ (by omega) (by omega)]; exact h4, by rw [e _ (by omega) (by omega)]; exact h5⟩))
  · exact Or.inr (Or.inr (Or.inr ⟨d, h1, h2, h3, h4, by rw [e _ (by omega) (by omega)]; exact h5, by rw [e _ (by omega) (by omega)]; exact h6, by rw [e _ (by omega) (by omega)]; exact h7⟩))
theorem rdT_ok {T : Nat → Nat} {n a q k : Nat} {lo hi : Int32} {w : Bool} (hk0 : 0 < k) (hk : k < 7) (hq : q + k ≤ n) (hd : ∀ j, j < k → 48 ≤ T (q + j) ∧ T (q + j) ≤ 57) (he : q + k = n ∨ T (q + k) = 32) (h1 : lo ≤ (if w = true then -nI (dv T q k) else nI (dv T q k))) (h2 : (if w = true then -nI (dv T q k) else nI (dv T q k)) ≤ hi) : rdT T n lo hi a q w = .inr (if w = true then -nI (dv T q k) else nI (dv T q k), q + k) := by
  have hn : ¬ dgt T n (q + k) = true := fun h9 => by
    rw [dgt_i] at h9
    rcases he with he | he <;> omega
  have e : rnl (dgt T n) q 7 = k := rnl_is 7 q k (fun j hj => by rw [dgt_i]; have := hd j hj; omega) (by omega) (Or.inr hn)
  unfold rdT
  rw [e, if_neg (by omega), if_neg hn, if_pos ⟨h1, h2⟩]
theorem rdN_ok {T : Nat → Nat} {n p l : Nat} {v lo hi : Int32} (h : NUMT T p l v) (hn : p + l ≤ n) (he : p + l = n ∨ T (p + l) = 32) (h1 : lo ≤ v) (h2 : v ≤ hi) : rdN T n lo hi p = .inr (v, p + l) := by
  have hl := NUMT_l h
  obtain ⟨h0, h⟩ := h
  have hb : isA T n p 32 = true := isA_i.2 ⟨by omega, h0⟩
  unfold rdN
  rw [if_pos hb]
  rcases h with ⟨d, g1, g2, g3, g4⟩ | ⟨d, g1, g2, g3, g4, g5, g6⟩ | ⟨d, g1, g2, g3, g4, g5⟩ | ⟨d, g1, g2, g3, g4, g5, g6, g7⟩
  · have e : dv T (p + 1) 1 = d := by
      show 10 * 0 + (T (p + 1 + 0) - 48) = d
      rw [Nat.add_zero, g4]
      omega
    rw [if_neg (fun h9 => by rw [isA_i] at h9; omega)]
    have h := rdT_ok (T := T) (n := n) (a := p + 1) (q := p + 1) (k := 1) (lo := lo) (hi := hi) (w := false) (by decide) (by decide) (by omega) (fun j hj => by
      obtain rfl : j = 0 := by omega
      rw [Nat.add_zero, g4]
      omega) (by rw [show p + 1 + 1 = p + l by omega]; exact he) (by rw [e, ← g2]; exact h1) (by rw [e, ← g2]; exact h2)
    rw [h, e, g2, g3]
    rfl
  · have e : dv T (p + 1) 2 = d := by
      show 10 * (10 * 0 + (T (p + 1 + 0) - 48)) + (T (p + 1 + 1) - 48) = d
      rw [Nat.add_zero, g5, show p + 1 + 1 = p + 2 from rfl, g6]
      omega
    rw [if_neg (fun h9 => by rw [isA_i] at h9; omega)]
    have h := rdT_ok (T := T) (n := n) (a := p + 1) (q := p + 1) (k := 2) (lo := lo) (hi := hi) (w := false) (by decide) (by decide) (by omega) (fun j hj => by
      rcases (by omega : j = 0 ∨ j = 1) with rfl | rfl
      · rw [Nat.add_zero, g5]
        omega
      · rw [show p + 1 + 1 = p + 2 from rfl, g6]
        omega) (by rw [show p + 1 + 2 = p + l by omega]; exact he) (by rw [e, ← g3]; exact h1) (by rw [e, ← g3]; exact h2)
    rw [h, e, g3, g4]
    rfl
  · have e : dv T (p + 2) 1 = d := by
      show 10 * 0 + (T (p + 2 + 0) - 48) = d
      rw [Nat.add_zero, g5]
      omega
    rw [if_pos (isA_i.2 ⟨by omega, g4⟩)]
    have h := rdT_ok (T := T) (n := n) (a := p + 1) (q := p + 2) (k := 1) (lo := lo) (hi := hi) (w := true) (by decide) (by decide) (by omega) (fun j hj => by
      obtain rfl : j = 0 := by omega
      rw [Nat.add_zero, g5]
      omega) (by rw [show p + 2 + 1 = p + l by omega]; exact he) (by rw [e, ← g2]; exact h1) (by rw [e, ← g2]; exact h2)
    rw [h, e, g2, g3]
    rfl
  · have e : dv T (p + 2) 2 = d := by
      show 10 * (10 * 0 + (T (p + 2 + 0) - 48)) + (T (p + 2 + 1) - 48) = d
      rw [Nat.add_zero, g6, show p + 2 + 1 = p + 3 from rfl, g7]
      omega
    rw [if_pos (isA_i.2 ⟨by omega, g5⟩)]
    have h := rdT_ok (T := T) (n := n) (a := p + 1) (q := p + 2) (k := 2) (lo := lo) (hi := hi) (w := true) (by decide) (by decide) (by omega) (fun j hj => by
      rcases (by omega : j = 0 ∨ j = 1) with rfl | rfl
      · rw [Nat.add_zero, g6]
        omega
      · rw [show p + 2 + 1 = p + 3 from rfl, g7]
        omega) (by rw [show p + 2 + 2 = p + l by omega]; exact he) (by rw [e, ← g3]; exact h1) (by rw [e, ← g3]; exact h2)
    rw [h, e, g3, g4]
    rfl
/-- numbers, one behind the other, from p to n -/
def TXT (T : Nat → Nat) (n : Nat) : Nat → List Int32 → Prop
  | p, [] => p = n
  | p, v :: vs => ∃ l, NUMT T p l v ∧ TXT T n (p + l) vs
theorem TXT_le {T : Nat → Nat} {n : Nat} : ∀ {vs : List Int32} {p : Nat}, TXT T n p vs → p + 2 * vs.length ≤ n ∧ n ≤ p + 4 * vs.length
  | [], p, h => by
    have h : p = n := h
    rw [h]
    exact ⟨Nat.le_refl _, Nat.le_refl _⟩
  | v :: vs, p, ⟨l, h1, h2⟩ => by
    have h3 := NUMT_l h1
    have h4 := TXT_le h2
    rw [List.length_cons]
    omega
theorem TXT_cong {T U : Nat → Nat} {n : Nat} : ∀ {vs : List Int32} {p : Nat}, TXT T n p vs → (∀ k, p ≤ k → k < n → U k = T k) → TXT U n p vs
  | [], p, h, _ => h
  | v :: vs, p, ⟨l, h1, h2⟩, e => by
    have h3 := TXT_le h2
    exact ⟨l, NUMT_cong h1 (fun k k1 k2 => e k k1 (by omega)), TXT_cong h2 (fun k k1 k2 => e k (by omega) k2)⟩
theorem TXT_add {T : Nat → Nat} {n l : Nat} {v : Int32} : ∀ {vs : List Int32} {p : Nat}, TXT T n p vs → NUMT T n l v → TXT T (n + l) p (vs ++ [v])
  | [], p, h, h2 => by
    have h : p = n := h
    subst h
    exact ⟨l, h2, rfl⟩
  | u :: vs, p, ⟨l2, h1, h3⟩, h2 => ⟨l2, h1, TXT_add h3 h2⟩
theorem TXT_nx {T : Nat → Nat} {n p : Nat} {vs : List Int32} (h : TXT T n p vs) : p = n ∨ (p < n ∧ T p = 32) := by
  cases vs with
  | nil => exact Or.inl h
  | cons v vs =>
    have h3 := TXT_le h
    rw [List.length_cons] at h3
    obtain ⟨l, h1, h2⟩ := h
    exact Or.inr ⟨by omega, h1.1⟩
/-- a number is read -/
theorem rn_ok {T : Nat → Nat} {n p f : Nat} {N : Nat → Int32} {v lo hi : Int32} {vs : List Int32} (h : TXT T n p (v :: vs)) (h1 : lo ≤ v) (h2 : v ≤ hi) : ∃ q, rn T n lo hi (.inr (p, f, N)) = .inr (q, f + 1, va_up N f v) ∧ TXT T n q vs := by
  obtain ⟨l, g1, g2⟩ := h
  have g3 := TXT_le g2
  refine ⟨p + l, ?_, g2⟩
  have e := rdN_ok (lo := lo) (hi := hi) g1 (show p + l ≤ n by omega) ((TXT_nx g2).imp id (fun h => h.2)) h1 h2
  unfold rn
  dsimp only
  rw [e]
/-- head of three numbers -/
theorem rr_ok {T : Nat → Nat} {n p s a b : Nat} {vs : List Int32} {N : Nat → Int32} (h : TXT T n p (nI s :: nI a :: nI b :: vs)) (hs : s < 4) (ha : 2 ≤ a) (ha2 : a ≤ 8) (hb : 1 ≤ b) (hb2 : b < a) : ∃ q N', rr T n (.inr (p, 0, N)) = .inr (q, 3, N') ∧ N' 0 = nI s ∧ N' 1 = nI a ∧ N' 2 = nI b ∧ TXT T n q vs := by
  obtain ⟨q1, e1, h1⟩ := rn_ok (f := 0) (N := N) (lo := nI 0) (hi := nI 3) h (nI_le (by omega) (by omega)) (nI_le (by omega) (by decide))
  obtain ⟨q2, e2, h2⟩ := rn_ok (f := 0 + 1) (N := va_up N 0 (nI s)) (lo := nI 2) (hi := nI 8) h1 (nI_le ha (by omega)) (nI_le ha2 (by decide))
  have e4 : lst (.inr (q2, 0 + 1 + 1, va_up (va_up N 0 (nI s)) (0 + 1) (nI a))) = nI a := up_eq
  obtain ⟨q3, e3, h3⟩ := rn_ok (f := 0 + 1 + 1) (N := va_up (va_up N 0 (nI s)) (0 + 1) (nI a)) (lo := nI 1) (hi := nI a - nI 1) h2 (nI_le hb (by omega)) (by rw [i_sub (by omega)]; exact nI_le (by omega) (by omega))
  refine ⟨q3, va_up (va_up (va_up N 0 (nI s)) (0 + 1) (nI a)) (0 + 1 + 1) (nI b), ?_, ?_, ?_, up_eq, h3⟩
  · unfold rr
    rw [e1, e2, e4, e3]
  · rw [up_ne (by decide), up_ne (by decide), up_eq]
  · rw [up_ne (by decide)]
    exact up_eq
theorem gg_ok {T : Nat → Nat} {n p s a b : Nat} {vs : List Int32} {N : Nat → Int32} (h : TXT T n p (nI s :: nI a :: nI b :: vs)) (hs : s < 4) (ha : 2 ≤ a) (ha2 : a ≤ 8) (hb : 2 ≤ b) (hb2 : b ≤ 6) : ∃ q N', gg T n (.inr (p, 0, N)) = .inr (q, 3, N') ∧ N' 0 = nI s ∧ N' 1 = nI a ∧ N' 2 = nI b ∧ TXT T n q vs := by
  obtain ⟨q1, e1, h1⟩ := rn_ok (f := 0) (N := N) (lo := nI 0) (hi := nI 3) h (nI_le (by omega) (by omega)) (nI_le (by omega) (by decide))
  obtain ⟨q2, e2, h2⟩ := rn_ok (f := 0 + 1) (N := va_up N 0 (nI s)) (lo := nI 2) (hi := nI 8) h1 (nI_le ha (by omega)) (nI_le ha2 (by decide))
  obtain ⟨q3, e3, h3⟩ := rn_ok (f := 0 + 1 + 1) (N := va_up (va_up N 0 (nI s)) (0 + 1) (nI a)) (lo := nI 2) (hi := nI 6) h2 (nI_le hb (by omega)) (nI_le hb2 (by decide))
  refine ⟨q3, va_up (va_up (va_up N 0 (nI s)) (0 + 1) (nI a)) (0 + 1 + 1) (nI b), ?_, ?_, ?_, up_eq, h3⟩
  · unfold gg
    rw [e1, e2, e3]
  · rw [up_ne (by decide), up_ne (by decide), up_eq]
  · rw [up_ne (by decide)]
    exact up_eq
theorem drop_at {vs : List Int32} {i : Nat} (h : i < vs.length) : vs.drop i = vs.getD i 0 :: vs.drop (i + 1) := by
  rw [List.drop_eq_getElem_cons h, List.getD_eq_getElem?_getD, List.getElem?_eq_getElem h]
  rfl
/-- weights -/
theorem wt_ok {T : Nat → Nat} {n p f : Nat} {N : Nat → Int32} {vs : List Int32} (h : TXT T n p vs) (hv : ∀ i, i < vs.length → (-999 : Int32) ≤ vs.getD i 0 ∧ vs.getD i 0 ≤ nI 999) : ∀ i, i ≤ vs.length → ∃ q N', wt T n (.inr (p, f, N)) i = .inr (q, f + i, N') ∧ TXT T n q (vs.drop i) ∧ (∀ j, j < f → N' j = N j) ∧ ∀ j, j < i → N' (f + j) = vs.getD j 0
  | 0, _ => ⟨p, N, rfl, h, fun _ _ => rfl, fun j hj => absurd hj (Nat.not_lt_zero _)⟩
  | i + 1, hi => by
    obtain ⟨q, N', e1, e2, e3, e4⟩ := wt_ok h hv i (by omega)
    rw [drop_at (by omega)] at e2
    obtain ⟨q2, e5, e6⟩ := rn_ok (f := f + i) (N := N') (lo := -999) (hi := nI 999) e2 (hv i (by omega)).1 (hv i (by omega)).2
    refine ⟨q2, va_up N' (f + i) (vs.getD i 0), ?_, e6, fun j hj => by rw [up_ne (by omega)]; exact e3 j hj, fun j hj => ?_⟩
    · show rn T n (-999) (nI 999) (wt T n (.inr (p, f, N)) i) = _
      rw [e1, e5]
      rfl
    · by_cases c : j = i
      · rw [c, up_eq]
      · rw [up_ne (by omega)]
        exact e4 j (by omega)
/-- edges -/
theorem egs_ok {T : Nat → Nat} {n p f hi : Nat} {N : Nat → Int32} {vs : List Int32} {m : Nat} (h : TXT T n p vs) (hm : vs.length = 2 * m) (hh : hi < 2147483648) (hv : ∀ i, i < 2 * m → ∃ x, x ≤ hi ∧ vs.getD i 0 = nI x) (hd : ∀ i, i < m → ¬ vs.getD (2 * i) 0 = vs.getD (2 * i + 1) 0) : ∀ i, i ≤ m → ∃ q N', egs T n (nI hi) (.inr (p, f, N)) i = .inr (q, f + 2 * i, N') ∧ TXT T n q (vs.drop (2 * i)) ∧ (∀ j, j < f → N' j = N j) ∧ ∀ j, j < 2 * i → N' (f + j) = vs.getD j 0
  | 0, _ => ⟨p, N, rfl, h, fun _ _ => rfl, fun j hj => absurd hj (Nat.not_lt_zero _)⟩
  | i + 1, hi' => by
    obtain ⟨q, N', e1, e2, e3, e4⟩ := egs_ok h hm hh hv hd i (by omega)
    rw [drop_at (by omega), drop_at (by omega)] at e2
    obtain ⟨x1, x2, x3⟩ := hv (2 * i) (by omega)
    obtain ⟨y1, y2, y3⟩ := hv (2 * i + 1) (by omega)
    obtain ⟨q2, e5, e6⟩ := rn_ok (f := f + 2 * i) (N := N') (lo := nI 0) (hi := nI hi) e2 (by rw [x3]; exact nI_le (by omega) (by omega)) (by rw [x3]; exact nI_le x2 hh)
    obtain ⟨q3, e7, e8⟩ := rn_ok (f := f + 2 * i + 1) (N := va_up N' (f + 2 * i) (vs.getD (2 * i) 0)) (lo := nI 0) (hi := nI hi) e6 (by rw [y3]; exact nI_le (by omega) (by omega)) (by rw [y3]; exact nI_le y2 hh)
    refine ⟨q3, va_up (va_up N' (f + 2 * i) (vs.getD (2 * i) 0)) (f + 2 * i + 1) (vs.getD (2 * i + 1) 0), ?_, e8, fun j hj => by rw [up_ne (by omega), up_ne (by omega)]; exact e3 j hj, fun j hj => ?_⟩
    · show eg1 T n (nI hi) (egs T n (nI hi) (.inr (p, f, N)) i) = _
      rw [e1]
      unfold eg1
      rw [e5]
      dsimp only
      rw [e7]
      dsimp only
      rw [show f + 2 * i + 1 + 1 - 1 = f + 2 * i + 1 by omega, show f + 2 * i + 1 - 1 = f + 2 * i by omega, up_eq, up_eq, if_neg (fun h9 => hd i (by omega) h9.symm)]
      rfl
    · by_cases c : j = 2 * i + 1
      · rw [c, show f + (2 * i + 1) = f + 2 * i + 1 by omega, up_eq]
      · rw [up_ne (by omega)]
        by_cases c2 : j = 2 * i
        · rw [c2, up_eq]
        · rw [up_ne (by omega)]
          exact e4 j (by omega)
/-- sets with values -/
theorem ssi_ok {T : Nat → Nat} {n p f n0 r : Nat} {N : Nat → Int32} {vs : List Int32} {m : Nat} (h : TXT T n p vs) (hm : vs.length = 2 * m) (hn0 : n0 ≤ 8) (hv : ∀ i, i < m → (∃ x, x < 2 ^ n0 ∧ pc x = r ∧ vs.getD (2 * i) 0 = nI x) ∧ (-1000000 : Int32) ≤ vs.getD (2 * i + 1) 0 ∧ vs.getD (2 * i + 1) 0 ≤ nI 1000000) (hd : ∀ i j, i < j → j < m → ¬ vs.getD (2 * i) 0 = vs.getD (2 * j) 0) : ∀ i, i ≤ m → ∃ q N', ssi T n n0 r f (.inr (p, f, N)) i = .inr (q, f + 2 * i, N') ∧ TXT T n q (vs.drop (2 * i)) ∧ (∀ j, j < f → N' j = N j) ∧ ∀ j, j < 2 * i → N' (f + j) = vs.getD j 0
  | 0, _ => ⟨p, N, rfl, h, fun _ _ => rfl, fun j hj => absurd hj (Nat.not_lt_zero _)⟩
  | i + 1, hi' => by
    have h8 := p2_le hn0
    obtain ⟨q, N', e1, e2, e3, e4⟩ := ssi_ok h hm hn0 hv hd i (by omega)
    have hq := TXT_nx e2
    have hq2 := TXT_le e2
    rw [List.length_drop] at hq2
    rw [drop_at (by omega), drop_at (by omega)] at e2
    obtain ⟨⟨x, x1, x2, x3⟩, y1, y2⟩ := hv i (by omega)
    obtain ⟨q2, e5, e6⟩ := rn_ok (f := f + 2 * i) (N := N') (lo := nI 0) (hi := nI 255) e2 (by rw [x3]; exact nI_le (by omega) (by omega)) (by rw [x3]; exact nI_le (by omega) (by decide))
    obtain ⟨q3, e7, e8⟩ := rn_ok (f := f + 2 * i + 1) (N := va_up N' (f + 2 * i) (vs.getD (2 * i) 0)) (lo := -1000000) (hi := nI 1000000) e6 y1 y2
    have hok : okS n0 r f (f + 2 * i + 1) (va_up N' (f + 2 * i) (vs.getD (2 * i) 0)) := by
      refine ⟨x, by omega, ?_, x2, x1, fun j hj => ?_⟩
      · rw [show f + 2 * i + 1 - 1 = f + 2 * i by omega, up_eq, x3]
      · rw [up_ne (by omega), e4 (2 * j) (by omega), ← x3]
        exact hd j i (by omega) (by omega)
    refine ⟨q3, va_up (va_up N' (f + 2 * i) (vs.getD (2 * i) 0)) (f + 2 * i + 1) (vs.getD (2 * i + 1) 0), ?_, e8, fun j hj => by rw [up_ne (by omega), up_ne (by omega)]; exact e3 j hj, fun j hj => ?_⟩
    · have hg : gos T n (.inr (q, f + 2 * i, N')) = true := isA_i.2 (by
        rcases hq with hq | hq
        · omega
        · exact hq)
      show (if i = 0 ∨ gos T n (ssi T n n0 r f (.inr (p, f, N)) i) = true then sst T n n0 r f (ssi T n n0 r f (.inr (p, f, N)) i) else ssi T n n0 r f (.inr (p, f, N)) i) = _
      rw [e1, if_pos (Or.inr hg), sst_s e5, cif_t hok, e7]
      rfl
    · by_cases c : j = 2 * i + 1
      · rw [c, show f + (2 * i + 1) = f + 2 * i + 1 by omega, up_eq]
      · rw [up_ne (by omega)]
        by_cases c2 : j = 2 * i
        · rw [c2, up_eq]
        · rw [up_ne (by omega)]
          exact e4 j (by omega)
/-- a word at the text's beginning -/
theorem word_ok {T : Nat → Nat} {n k : Nat} (hk : k < 14) (hw : (WD k).length < n) (h : ∀ i, i < (WD k).length → T i = (WD k).getD i 0) (h2 : T (WD k).length = 32) : wend T n 0 = (WD k).length ∧ kdw T 0 (WD k).length = k := by
  have hl := wd_ln k hk
  have hlt := wd_lt k hk
  constructor
  · unfold wend
    rw [rnl_is 256 0 (WD k).length (fun j hj => by rw [ltr_i, Nat.zero_add, h j hj]; exact ⟨by omega, hlt j hj⟩) (by omega) (Or.inr (fun h9 => by
      rw [ltr_i, Nat.zero_add, h2] at h9
      omega)), Nat.zero_add]
  · have e : slc T 0 (WD k).length = WD k := (slc_eq (by rw [Nat.sub_zero])).2 (fun i hi => by rw [Nat.zero_add]; exact h i (by omega))
    unfold kdw
    refine rnl_is 14 0 k (fun j hj => ?_) (by omega) (Or.inr (fun h9 => ?_))
    · rw [Nat.zero_add]
      show (!isW T 0 (WD k).length j) = true
      unfold isW
      rw [e, decide_eq_false (fun h9 => by
        have := WD_inj k hk j (by omega) h9
        omega)]
      rfl
    · rw [Nat.zero_add] at h9
      have h9 : (!isW T 0 (WD k).length k) = true := h9
      unfold isW at h9
      rw [e, decide_eq_true rfl] at h9
      cases h9
/-- one clause alone -/
theorem rtx_ok {T : Nat → Nat} {n k f : Nat} {N : Nat → Int32} (hk : k < 14) (hw : (WD k).length < n) (h : ∀ i, i < (WD k).length → T i = (WD k).getD i 0) (h2 : T (WD k).length = 32) (hb : bdp T n k 0 (hdp T n k (.inr ((WD k).length, 0, fun _ => 0))) = .inr (n, f, N)) : ∃ ks st, rtx T n 16 = .inr (1, ks, st, n, f, N) ∧ ks 0 = k ∧ st 0 = 0 := by
  obtain ⟨w1, w2⟩ := word_ok hk hw h h2
  have hc : clp T n 0 0 (fun _ => 0) = .inr (n, f, N) := by
    unfold clp
    rw [w1, w2, if_pos hk, hb]
  refine ⟨va_up (fun _ => 0) 0 k, va_up (fun _ => 0) 0 0, ?_, up_eq, up_eq⟩
  have e1 : rsq T n 1 = .inr (.inr (1, va_up (fun _ => 0) 0 k, va_up (fun _ => 0) 0 0, n, f, N)) := by
    show nxt T n 0 (.inr (.inl (fun _ => 0, fun _ => 0, 0, 0, fun _ => 0))) = _
    unfold nxt
    dsimp only
    rw [hc]
    dsimp only
    rw [if_neg (Nat.lt_irrefl _), w1, w2]
  exact rtx_d (i := 1) (M := 16) (by decide) e1
