/-! What the law's clauses make can stand. -/
theorem pc_low : ∀ r, r < 9 → pc (2 ^ r - 1) = r := by decide +kernel
theorem low_lt {r n : Nat} (h : r < n) : 2 ^ r - 1 < 2 ^ n := by
  have h1 := Nat.pow_lt_pow_right (a := 2) (by decide) h
  have h2 := Nat.two_pow_pos n
  omega
theorem can_uni {A : SV} {c : Nat → Int32} {cnt n r : Nat} (hn : 2 ≤ n) (hn8 : n ≤ 8) (hr : 1 ≤ r) (hrn : r < n) (h1 : c 1 = nI n) (h2 : c 2 = nI r) : ∃ D, DRk A 1 c cnt n r D ∧ okd D := by
  have h8 := p2_le hn8
  have h9 := low_lt hrn
  refine ⟨uni n r, ⟨⟨hn, hn8, hr, hrn⟩, h1, h2, fun _ _ => rfl⟩, ⟨2 ^ r - 1, by omega, ?_⟩, fun k hk hV => ?_⟩
  · unfold uni
    rw [if_pos ⟨h9, pc_low r (by omega)⟩]
    decide
  · unfold uni at hV ⊢
    by_cases e : k < 2 ^ n ∧ pc k = r
    · rw [if_pos e]
      decide
    · rw [if_neg e] at hV
      exact absurd rfl hV
theorem mxb_ex {B : Nat → Int32} {w : Nat → Nat → Int32} {set : Nat} : ∀ m, ∃ x, MX (bcd B w set m) x
  | 0 => ⟨NO, Or.inl ⟨rfl, fun y ⟨e, he, _⟩ => absurd he (Nat.not_lt_zero _)⟩⟩
  | m + 1 => by
    obtain ⟨x, hx⟩ := mxb_ex (B := B) (w := w) (set := set) m
    by_cases c : set.testBit m = true
    · refine ⟨mx x (B (set ^^^ 2 ^ m) + w (pc set - 1) m), MX_cong (MX_add hx) (fun z => ⟨fun h => ?_, fun h => ?_⟩)⟩
      · rcases h with ⟨e, e1, e2, e3⟩ | h
        · exact ⟨e, by omega, e2, e3⟩
        · exact ⟨m, by omega, c, h⟩
      · obtain ⟨e, e1, e2, e3⟩ := h
        by_cases d : e = m
        · rw [d] at e3
          exact Or.inr e3
        · exact Or.inl ⟨e, by omega, e2, e3⟩
    · refine ⟨x, MX_cong hx (fun z => ⟨fun ⟨e, e1, e2, e3⟩ => ⟨e, by omega, e2, e3⟩, fun ⟨e, e1, e2, e3⟩ => ⟨e, ?_, e2, e3⟩⟩)⟩
      by_cases d : e = m
      · rw [d] at e2
        exact absurd e2 c
      · omega
theorem bst_ex {w : Nat → Nat → Int32} {n r : Nat} (hn : n ≤ 8) : ∀ N, N ≤ 256 → ∃ B, BST B w n r N
  | 0, _ => ⟨fun _ => nI 0, rfl, fun j _ hj => absurd hj (Nat.not_lt_zero _)⟩
  | N + 1, hN => by
    obtain ⟨B, h1, h2⟩ := bst_ex (w := w) (n := n) (r := r) hn N (by omega)
    by_cases c0 : N = 0
    · exact ⟨B, h1, fun j j1 j2 => by omega⟩
    · obtain ⟨x, hx⟩ := mxb_ex (B := B) (w := w) (set := N) n
      refine ⟨va_up B N x, by rw [up_ne (fun h9 => c0 h9.symm)]; exact h1, fun j j1 j2 j3 => ?_⟩
      have hc : ∀ z, bcd B w j n z ↔ bcd (va_up B N x) w j n z := bcd_cong (by omega) hn (fun k hk => (up_ne (by omega)).symm)
      by_cases c : j = N
      · subst c
        rw [up_eq]
        exact MX_cong hx hc
      · rw [up_ne c]
        exact MX_cong (h2 j j1 (by omega) j3) hc
theorem can_mat {A : SV} {c : Nat → Int32} {cnt n r : Nat} (hn : 2 ≤ n) (hn8 : n ≤ 8) (hr : 1 ≤ r) (hrn : r < n) (h1 : c 1 = nI n) (h2 : c 2 = nI r) (hw : ∀ q e, q < r → e < n → -999 ≤ (c (3 + q * n + e)).toInt ∧ (c (3 + q * n + e)).toInt ≤ 999) : ∃ D, DRk A 2 c cnt n r D ∧ okd D := by
  have h8 := p2_le hn8
  have h9 := low_lt hrn
  obtain ⟨B, hB⟩ := bst_ex (w := fun q e => c (3 + q * n + e)) (n := n) (r := r) hn8 (2 ^ n) h8
  refine ⟨fun j => if j < 2 ^ n ∧ pc j = r then B j else NO, ⟨⟨hn, hn8, hr, hrn⟩, h1, h2, B, hB, fun _ _ => rfl⟩, ⟨2 ^ r - 1, by omega, ?_⟩, fun k hk hV => ?_⟩
  · dsimp only
    rw [if_pos ⟨h9, pc_low r (by omega)⟩]
    exact bst_no hn8 hB hw h9 (by rw [pc_low r (by omega)]; exact Nat.le_refl _)
  · dsimp only at hV ⊢
    by_cases e : k < 2 ^ n ∧ pc k = r
    · rw [if_pos e]
      obtain ⟨b1, b2⟩ := bst_b hn8 hB hw k e.1 (by omega)
      have hp := pc_le k
      rw [Int32.le_iff_toInt_le, Int32.le_iff_toInt_le, show (-1000000 : Int32).toInt = -1000000 from by decide, show (1000000 : Int32).toInt = 1000000 from by decide]
      omega
    · rw [if_neg e] at hV
      exact absurd rfl hV
theorem mr_cong {set m : Nat} {c d : Nat → Nat} : ∀ k, (∀ e, e < k → set.testBit e = true → eb c e = eb d e) → mr set c m k = mr set d m k
  | 0, _ => rfl
  | k + 1, h => by
    have ih := mr_cong (m := m) k (fun e he => h e (by omega))
    unfold mr
    rw [ih]
    by_cases b : set.testBit k = true
    · rw [h k (by omega) b]
    · rw [if_neg (fun h9 => b h9.1), if_neg (fun h9 => b h9.1)]
theorem mt_cong {set n : Nat} {c d : Nat → Nat} (h : ∀ e, e < n → set.testBit e = true → eb c e = eb d e) : ∀ q, mt set c n q = mt set d n q
  | 0 => rfl
  | q + 1 => by
    show mr set c (mt set c n q) n = mr set d (mt set d n q) n
    rw [mt_cong h q]
    exact mr_cong n h
theorem mt_path : ∀ r, r < 5 → ∀ n, n < 7 → r ≤ n → mt (2 ^ r - 1) (fun i => (i + 1) / 2) n (r + 1) = 2 ^ (r + 1) - 1 := by decide +kernel
theorem low_tb : ∀ r, r < 5 → ∀ e, e < 8 → (2 ^ r - 1).testBit e = true → e < r := by decide +kernel
theorem can_gra {A : SV} {c : Nat → Int32} {cnt n r : Nat} (hn : 2 ≤ n) (hn8 : n < 7) (hr : 1 ≤ r) (hr4 : r < 5) (hrn : r < n) (h1 : c 1 = nI n) (h2 : c 2 = nI (r + 1)) (hp : ∀ e, e < r → c (3 + 2 * e) = nI e ∧ c (3 + 2 * e + 1) = nI (e + 1)) : ∃ D, DRk A 3 c cnt n r D ∧ okd D := by
  have h8 := p2_le (show n ≤ 8 by omega)
  have h9 := low_lt hrn
  refine ⟨gph (fun i => (c (3 + i)).toNatClampNeg) n r, ⟨⟨hn, by omega, hr, hrn⟩, h1, h2, fun _ _ => rfl⟩, ⟨2 ^ r - 1, by omega, ?_⟩, fun k hk hV => ?_⟩
  · have hm : mt (2 ^ r - 1) (fun i => (c (3 + i)).toNatClampNeg) n (r + 1) = 2 ^ (r + 1) - 1 := by
      rw [mt_cong (d := fun i => (i + 1) / 2) (fun e he hb => by
        have he2 := low_tb r hr4 e (by omega) hb
        obtain ⟨g1, g2⟩ := hp e he2
        unfold eb
        dsimp only
        rw [show 3 + (2 * e + 1) = 3 + 2 * e + 1 by omega, g1, g2, i_cl (by omega), i_cl (by omega), show (2 * e + 1) / 2 = e by omega, show (2 * e + 1 + 1) / 2 = e + 1 by omega])]
      exact mt_path r hr4 n hn8 (by omega)
    unfold gph
    rw [if_pos ⟨h9, pc_low r (by omega), hm⟩]
    decide
  · unfold gph at hV ⊢
    by_cases e : k < 2 ^ n ∧ pc k = r ∧ mt k (fun i => (c (3 + i)).toNatClampNeg) n (r + 1) = 2 ^ (r + 1) - 1
    · rw [if_pos e]
      decide
    · rw [if_neg e] at hV
      exact absurd rfl hV
theorem tdr_v {S : Nat → Nat} {Y : Nat → Int32} {j : Nat} : ∀ q, tdr S Y q j = NO ∨ ∃ i, i < q ∧ tdr S Y q j = Y i
  | 0 => Or.inl rfl
  | q + 1 => by
    have ih := tdr_v (S := S) (Y := Y) (j := j) q
    unfold tdr
    by_cases c : j = S q
    · subst c
      rw [up_eq]
      unfold mx
      split
      · exact Or.inr ⟨q, by omega, rfl⟩
      · rcases ih with ih | ⟨i, i1, i2⟩
        · exact Or.inl ih
        · exact Or.inr ⟨i, by omega, i2⟩
    · rw [up_ne c]
      rcases ih with ih | ⟨i, i1, i2⟩
      · exact Or.inl ih
      · exact Or.inr ⟨i, by omega, i2⟩
theorem can_tol {A : SV} {c : Nat → Int32} {n r q : Nat} (hn : 2 ≤ n) (hn8 : n ≤ 8) (hr : 1 ≤ r) (hrn : r < n) (h1 : c 1 = nI n) (h2 : c 2 = nI r) (hq : 1 ≤ q) (hv : ∀ i, i < q → (c (3 + 2 * i)).toNatClampNeg < 256 ∧ (-1000000 : Int32) ≤ c (3 + 2 * i + 1) ∧ c (3 + 2 * i + 1) ≤ nI 1000000) : ∃ D, DRk A 4 c (3 + 2 * q) n r D ∧ okd D := by
  refine ⟨tdr (fun i => (c (3 + 2 * i)).toNatClampNeg) (fun i => c (3 + 2 * i + 1)) q, ⟨⟨hn, hn8, hr, hrn⟩, h1, h2, q, rfl, fun _ _ => rfl⟩, ⟨(c (3 + 2 * (q - 1))).toNatClampNeg, (hv _ (by omega)).1, ?_⟩, fun k hk hV => ?_⟩
  · obtain ⟨p, rfl⟩ : ∃ p, q = p + 1 := ⟨q - 1, by omega⟩
    rw [Nat.add_sub_cancel]
    unfold tdr
    rw [up_eq]
    intro h9
    have h5 := (hv p (by omega)).2.1
    unfold mx at h9
    split at h9
    · rw [h9] at h5
      exact absurd h5 (by decide)
    · rename_i h6
      rw [h9] at h6
      exact h6 (Int32.minValue_le _)
  · rcases tdr_v (S := fun i => (c (3 + 2 * i)).toNatClampNeg) (Y := fun i => c (3 + 2 * i + 1)) (j := k) q with e | ⟨i, i1, i2⟩
    · exact absurd e hV
    · rw [i2]
      exact ⟨(hv i i1).2.1, (hv i i1).2.2⟩
/-- orders of one clause that can stand -/
theorem k_orders {I : ai_I} {t n x f kd s a b : Nat} {L : ai_G} {A : SV} {T ks st : Nat → Nat} {N D : Nat → Int32} (h : KA I A) (hn1 : 1 ≤ n) (hn : n ≤ 200) (hx : I 1 4 = nI x) (hx2 : x ≤ 240) (hnx : n ≤ x) (hT : ∀ k, k < n → T k < 256 ∧ I 42 k = nI (T k)) (hr : rtx T n 16 = .inr (1, ks, st, n, f, N)) (hk : ks 0 = kd) (hs0 : st 0 = 0) (hkd : ¬ kd = 0) (hs : s < 4) (hN : N 0 = nI s) (hD : DRk A kd N f a b D) (ok : okd D) : wp (m_97 1 (nI n) I (Rc t) (Gc L)) (fun q => q.1 = nI 1 ∧ q.2.2 = Rc 42 ∧ q.2.1 1 4 = nI 0 ∧ (∀ c, 74 < c → q.2.1 c = I c) ∧ ∃ A', KA q.2.1 A' ∧ A'.1 s = a ∧ A'.2.1 s = b ∧ A'.2.2.2 = A.2.2.2) := by
  obtain ⟨m, nt, hS⟩ := h
  refine wp_mono (c_139 (t := t) (L := L) (M := 16) rfl hn1 hn hx hx2 hnx hT hS) ?_
  rintro q ⟨q1, q2, q3, q4⟩
  rw [hr] at q4
  obtain ⟨k, k1, ⟨d1, d2, d3⟩, k3⟩ := q4
  have ec : ckn (1, ks, st, f, N) 0 = N := by
    funext i
    show N (st 0 + i) = N i
    rw [hs0, Nat.zero_add]
  have en : cnn (1, ks, st, f, N) 0 = f := by
    show enk 1 f st 0 - st 0 = f
    unfold enk
    rw [hs0, if_pos rfl]
    rfl
  have hc : cnk (1, ks, st, f, N) (A, m, nt) 0 := by
    show can (A, m, nt) (ks 0) (ckn (1, ks, st, f, N) 0) (cnn (1, ks, st, f, N) 0)
    rw [ec, en, hk]
    exact Or.inr ⟨a, b, D, hD, ok⟩
  have hk1 : k = 1 := by
    have d1 : k ≤ 1 := d1
    rcases (by omega : k = 0 ∨ k = 1) with e | e
    · subst e
      rcases d3 with d3 | d3
      · exact absurd (show 0 = 1 from d3) (by decide)
      · exact absurd hc d3
    · exact e
  subst hk1
  obtain ⟨e1, e2, -⟩ := mk0_s hD ok
  have es : sqn (1, ks, st, f, N) (A, m, nt) 1 = ((va_up A.1 s (mk0 A kd N f).1, va_up A.2.1 s (mk0 A kd N f).2.1, va_up A.2.2.1 s (mk0 A kd N f).2.2, A.2.2.2), min 20 (m + 1), nxn s (mk0 A kd N f).1 (BL (A.2.2.1 s)).length (BL (mk0 A kd N f).2.2).length nt) := by
    show stp (A, m, nt) (ks 0) (ckn (1, ks, st, f, N) 0) (cnn (1, ks, st, f, N) 0) = _
    rw [ec, en, hk]
    unfold stp
    rw [if_neg hkd, hN, i_cl (by omega)]
  rw [es] at k3
  refine ⟨k1, q1, q3, fun c hc => q2.1 c (by omega), _, ⟨_, _, k3⟩, ?_, ?_, rfl⟩
  · dsimp only
    rw [up_eq, e1]
  · dsimp only
    rw [up_eq, e2]
