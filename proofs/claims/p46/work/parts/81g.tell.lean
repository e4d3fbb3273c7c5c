/-! The law tells a text: feed, tell. -/
/-- more arrays, the old ones as they were -/
def EX (L L' : ai_G) : Prop := L.2.2 ≤ L'.2.2 ∧ (∀ a m, ary L a m → ary L' a m) ∧ L'.2.1 1999 = L.2.1 1999
theorem EX_rf {L : ai_G} : EX L L := ⟨Nat.le_refl _, fun _ _ h => h, rfl⟩
theorem EX_tr {L M K : ai_G} (h : EX L M) (h2 : EX M K) : EX L K := ⟨Nat.le_trans h.1 h2.1, fun a m ha => h2.2.1 a m (h.2.1 a m ha), h2.2.2.trans h.2.2⟩
theorem EX_nw {L : ai_G} {n : Nat} (h9 : L.2.2 < 900) : EX L (nw L n) := ⟨Nat.le_succ _, fun _ _ h => nw_old h, up_ne (by omega)⟩
def pk4 (f : Nat → Nat) : Nat → Nat
  | 0 => 0
  | m + 1 => pk4 f m * 256 + f m
theorem byt_pk {f : Nat → Nat} (hf : ∀ j, j < 4 → f j < 256) : ∀ j, j < 4 → byt (nI (pk4 f 4)) j = f j := fun j hj => by
  have h0 := hf 0 (by decide)
  have h1 := hf 1 (by decide)
  have h2 := hf 2 (by decide)
  have h3 := hf 3 (by decide)
  have e : pk4 f 4 = ((f 0 * 256 + f 1) * 256 + f 2) * 256 + f 3 := by
    show (((0 * 256 + f 0) * 256 + f 1) * 256 + f 2) * 256 + f 3 = _
    rw [Nat.zero_mul, Nat.zero_add]
  have key : byt (nI (pk4 f 4)) j = pk4 f 4 % 4294967296 / 2 ^ (24 - 8 * j) % 256 := by
    unfold byt
    rw [i_bv, BitVec.toNat_and, BitVec.toNat_ushiftRight, BitVec.toNat_ofNat, Nat.shiftRight_eq_div_pow]
    exact Nat.and_two_pow_sub_one_eq_mod _ 8
  rw [key, e]
  rcases (by omega : j = 0 ∨ j = 1 ∨ j = 2 ∨ j = 3) with rfl | rfl | rfl | rfl
  · show (((f 0 * 256 + f 1) * 256 + f 2) * 256 + f 3) % 4294967296 / 16777216 % 256 = f 0
    omega
  · show (((f 0 * 256 + f 1) * 256 + f 2) * 256 + f 3) % 4294967296 / 65536 % 256 = f 1
    omega
  · show (((f 0 * 256 + f 1) * 256 + f 2) * 256 + f 3) % 4294967296 / 256 % 256 = f 2
    omega
  · show (((f 0 * 256 + f 1) * 256 + f 2) * 256 + f 3) % 4294967296 / 1 % 256 = f 3
    omega
theorem sl32 (a s : Int32) (k : Nat) (h : (s.toBitVec.smod 32).toNat = k) : (a <<< s).toBitVec = a.toBitVec <<< k := by
  rw [← h]
  rfl
theorem sl8 (a c : Nat) (hc : c < 256) : (nI a <<< (nI 8 &&& 31)) ||| nI c = nI (a * 256 + c) := by
  have e : nI a <<< (nI 8 &&& 31) = nI (a * 256) := by
    rw [← i_mul]
    apply Int32.toBitVec_inj.1
    rw [sl32 _ _ 8 (by decide), Int32.toBitVec_mul, BitVec.shiftLeft_eq_mul_twoPow]
    rfl
  rw [e, i_or]
  congr 1
  have := Nat.two_pow_add_eq_or_of_lt (i := 8) (b := c) hc a
  rw [Nat.mul_comm]
  exact this.symm
/-- one word of the tape, told -/
theorem k_tape {I : ai_I} {t n : Nat} {L : ai_G} {b : Nat → Nat} (hn : n + 4 ≤ 240) (h1 : I 1 4 = nI n) (h2 : ∀ k, k < n → I 42 k = nI (b k)) (hb : ∀ k, b k < 256) : ∃ J, m_96 1 (nI (pk4 (fun j => b (n + j)) 4)) I (Rc t) (Gc L) = some J ∧ J 1 4 = nI (n + 4) ∧ (∀ k, k < n + 4 → J 42 k = nI (b k)) ∧ (∀ c, ¬ c = 1 → ¬ c = 42 → J c = I c) ∧ (∀ j, ¬ j = 4 → J 1 j = I 1 j) := by
  obtain ⟨J, j1, j2, j3, j4, j5⟩ := c_138 (t := t) (L := L) (nI (pk4 (fun j => b (n + j)) 4)) hn h1 h2
  refine ⟨J, j1, j2, fun k hk => ?_, j4, j5⟩
  rw [j3 k hk]
  unfold Bx
  by_cases c : k < n
  · rw [if_pos c]
  · rw [if_neg c, byt_pk (fun j _ => hb _) _ (by omega), show n + (k - n) = k by omega]
theorem k_feed {I : ai_I} {t n : Nat} {L : ai_G} {b : Nat → Nat} {x1 x2 x3 x4 x5 : Int32} (hn : n + 20 ≤ 240) (h1 : I 1 4 = nI n) (h2 : ∀ k, k < n → I 42 k = nI (b k)) (hb : ∀ k, b k < 256) (e1 : x1 = nI (pk4 (fun j => b (n + j)) 4)) (e2 : x2 = nI (pk4 (fun j => b (n + 4 + j)) 4)) (e3 : x3 = nI (pk4 (fun j => b (n + 4 + 4 + j)) 4)) (e4 : x4 = nI (pk4 (fun j => b (n + 4 + 4 + 4 + j)) 4)) (e5 : x5 = nI (pk4 (fun j => b (n + 4 + 4 + 4 + 4 + j)) 4)) : wp (m_95 1 x1 x2 x3 x4 x5 I (Rc t) (Gc L)) (fun q => q.2 1 4 = nI (n + 20) ∧ (∀ k, k < n + 20 → q.2 42 k = nI (b k)) ∧ (∀ c, ¬ c = 1 → ¬ c = 42 → q.2 c = I c) ∧ (∀ j, ¬ j = 4 → q.2 1 j = I 1 j)) := by
  subst e1
  subst e2
  subst e3
  subst e4
  subst e5
  obtain ⟨J1, a1, a2, a3, a4, a5⟩ := k_tape (t := t) (L := L) (b := b) (by omega) h1 h2 hb
  obtain ⟨J2, b1, b2, b3, b4, b5⟩ := k_tape (t := t) (L := L) (b := b) (by omega) a2 a3 hb
  obtain ⟨J3, c1, c2, c3, c4, c5⟩ := k_tape (t := t) (L := L) (b := b) (by omega) b2 b3 hb
  obtain ⟨J4, d1, d2, d3, d4, d5⟩ := k_tape (t := t) (L := L) (b := b) (by omega) c2 c3 hb
  obtain ⟨J5, f1, f2, f3, f4, f5⟩ := k_tape (t := t) (L := L) (b := b) (by omega) d2 d3 hb
  unfold m_95
  rw [h1, i_add, q_leT (by omega) hn, a1, o_b1_s, b1, o_b1_s, c1, o_b1_s, d1, o_b1_s, f1, o_b1_s, f2, wp_s]
  exact ⟨f2, f3, fun c q1 q2 => (f4 c q1 q2).trans ((d4 c q1 q2).trans ((c4 c q1 q2).trans ((b4 c q1 q2).trans (a4 c q1 q2)))), fun j q => (f5 j q).trans ((d5 j q).trans ((c5 j q).trans ((b5 j q).trans (a5 j q))))⟩
/-- five words are packed -/
theorem k_pack {J : ai_I} {t a n m : Nat} {L : ai_G} {b : Nat → Nat} (hb : ∀ k, b k < 256) (ht : ary L t 240) (ha : ary L a 5) (hta : ¬ t = a) (hn : n ≤ 200) (hm : m ≤ 200) (hT : ∀ k, k < n → J t k = nI (b k)) (h0 : ∀ k, n ≤ k → b k = 0) (hz : J a = fun _ => 0) : wp (lp (fun s => m_117_b35 t (nI n) (nI m) (Gc L) a s.1 s.2) o_N (nI 0, J)) (fun K => ot J K a ∧ ∀ w, w < 5 → K a w = nI (pk4 (fun j => b (m + 4 * w + j)) 4)) := by
  refine wp_lp (fun q s => s.1 = nI q ∧ ot J s.2 a ∧ ∀ w, w < 5 → s.2 a w = nI (pk4 (fun j => b (m + 4 * w + j)) (min 4 (q - 4 * w)))) 0 20 (Nat.zero_le _) (by omega) ⟨rfl, fun _ _ => rfl, fun w _ => ?_⟩ ?_ ?_
  · dsimp only
    rw [hz, show min 4 (0 - 4 * w) = 0 by omega]
    rfl
  · rintro q ⟨x, K⟩ hq ⟨h1, h2, h3⟩
    dsimp only at h1 h2 h3
    subst h1
    have put : ∀ y, y = nI (b (m + q)) → wp (m_117_j80 (Gc L) a (nI q) K y) (lq (fun s : Int32 × ai_I => s.1 = nI (q + 1) ∧ ot J s.2 a ∧ ∀ w, w < 5 → s.2 a w = nI (pk4 (fun j => b (m + 4 * w + j)) (min 4 (q + 1 - 4 * w)))) (fun K => ot J K a ∧ ∀ w, w < 5 → K a w = nI (pk4 (fun j => b (m + 4 * w + j)) 4))) := fun y hy => by
      subst hy
      unfold m_117_j80
      rw [k_div (by omega) (by decide) (by decide), ay_in ha (by omega) (by decide), o_g_t, i_cl (by omega), h3 (q / 4) (by omega), sl8 _ _ (hb _), o_b1_s, i_add, o_b1_s, wp_s, lq_l]
      refine ⟨rfl, fun c hc => by dsimp only; rw [up_ne hc]; exact h2 c hc, fun w hw => ?_⟩
      dsimp only
      rw [up_eq]
      by_cases c : w = q / 4
      · subst c
        rw [up_eq, show min 4 (q + 1 - 4 * (q / 4)) = min 4 (q - 4 * (q / 4)) + 1 by omega]
        show nI (pk4 _ (min 4 (q - 4 * (q / 4))) * 256 + b (m + q)) = nI (pk4 _ (min 4 (q - 4 * (q / 4))) * 256 + b (m + 4 * (q / 4) + min 4 (q - 4 * (q / 4))))
        rw [show m + 4 * (q / 4) + min 4 (q - 4 * (q / 4)) = m + q by omega]
      · rw [up_ne c, h3 w hw, show min 4 (q + 1 - 4 * w) = min 4 (q - 4 * w) by omega]
    unfold m_117_b35
    dsimp only
    rw [if_neg (nI_ge hq (by decide)), k_div (by omega) (by decide) (by decide), ay_in ha (by omega) (by decide), o_g_t, i_add]
    by_cases c : n ≤ m + q
    · rw [if_pos (nI_le c (by omega))]
      exact put _ (by rw [h0 _ c])
    · rw [if_neg (nI_ge (by omega) (by omega)), ay_in ht (by omega) (by decide), o_g_t, i_cl (by omega), h2 t hta, hT (m + q) (by omega), i_and]
      refine put _ ?_
      have := Nat.and_two_pow_sub_one_eq_mod (b (m + q)) 8
      rw [show b (m + q) &&& 255 = b (m + q) % 256 from this, Nat.mod_eq_of_lt (hb _)]
  · rintro ⟨x, K⟩ ⟨h1, h2, h3⟩
    dsimp only at h1 h2 h3
    subst h1
    unfold m_117_b35
    dsimp only
    rw [if_pos (Int32.le_refl _), wp_s, lq_r]
    refine ⟨h2, fun w hw => ?_⟩
    rw [h3 w hw, show min 4 (20 - 4 * w) = 4 by omega]
theorem k_tell {I : ai_I} {tt t n : Nat} {L : ai_G} {T : Nat → Nat} (hz : 74 ≤ L.2.2) (hz9 : L.2.2 + 11 < 900) (ht : ary L t 240) (hn : n ≤ 200) (hT : ∀ k, k < n → T k < 256 ∧ I t k = nI (T k)) (h0 : I 1 4 = nI 0) : wp (m_117 1 t (nI n) I (Rc tt) (Gc L)) (fun q => ∃ L', q.2 = Gc L' ∧ EX L L' ∧ L'.2.2 ≤ L.2.2 + 10 ∧ (∀ c, ¬ c = 1 → ¬ c = 42 → (c ≤ L.2.2 ∨ c = 1999) → q.1 c = I c) ∧ ∃ x, n ≤ x ∧ x ≤ 220 ∧ q.1 1 4 = nI x ∧ ∀ k, k < n → q.1 42 k = nI (T k)) := by
  -- the text, with zeros behind it
  obtain ⟨b, hb, hbT, hb0⟩ : ∃ b : Nat → Nat, (∀ k, b k < 256) ∧ (∀ k, k < n → b k = T k) ∧ ∀ k, n ≤ k → b k = 0 := ⟨fun k => if k < n then T k else 0, fun k => by
    dsimp only
    split
    · rename_i c
      exact (hT k c).1
    · decide, fun k hk => if_pos hk, fun k hk => if_neg (by omega)⟩
  unfold m_117
  rw [o_b1_s]
  refine wp_s1 (wp_lp (fun i s => s.1 = nI (20 * i) ∧ ∃ L', s.2.2.1 = Gc L' ∧ EX L L' ∧ L'.2.2 = L.2.2 + i ∧ s.2.2.2 = (11 - i, 55 - 5 * i) ∧ (∀ c, ¬ c = 1 → ¬ c = 42 → (c ≤ L.2.2 ∨ c = 1999) → s.2.1 c = I c) ∧ s.2.1 1 4 = nI (20 * i) ∧ ∀ k, k < 20 * i → s.2.1 42 k = nI (b k)) 0 ((n + 19) / 20) (Nat.zero_le _) (by omega) ⟨rfl, L, rfl, EX_rf, rfl, rfl, fun _ _ _ _ => rfl, h0, fun k hk => absurd hk (Nat.not_lt_zero _)⟩ ?_ ?_)
  · rintro i ⟨x, J, G, B⟩ hi ⟨g1, L', g2, g3, g4, g5, g6, g7, g8⟩
    dsimp only at g1 g2 g4 g5 g6 g7 g8
    subst g1
    subst g2
    unfold m_117_b2
    dsimp only
    rw [if_neg (nI_ge (by omega) (by omega))]
    have hz' : 74 ≤ L'.2.2 := by omega
    refine al_b hz' (by omega) (by rw [g5]; dsimp only; omega) ?_
    have ht' := nw_old (n := 5) (g3.2.1 t 240 ht)
    have hz1 := ht.2.1
    have ha' := nw_new (n := 5) hz'
    refine wp_s1 (wp_mono (k_pack (J := va_up J (L'.2.2 + 1) (fun _ => 0)) (n := n) (m := 20 * i) hb ht' ha' (by omega) hn (by omega) (fun k hk => ?_) hb0 up_eq) ?_)
    · rw [up_ne (by omega), g6 t (by have := ht.1; omega) (by have := ht.1; omega) (Or.inl hz1), (hT k hk).2, hbT k hk]
    · rintro K ⟨k1, k2⟩
      have hK : ∀ c, ¬ c = L'.2.2 + 1 → K c = J c := fun c hc => (k1 c hc).trans (up_ne hc)
      unfold m_117_x35_88
      rw [ay_in ha' (by decide) (by decide), ay_in ha' (by decide) (by decide), ay_in ha' (by decide) (by decide), ay_in ha' (by decide) (by decide), ay_in ha' (by decide) (by decide), k_1]
      simp only [o_g_t]
      refine wp_b2 (wp_mono (k_feed (t := tt) (L := nw L' 5) (I := K) (n := 20 * i) (b := b) (by omega) (by rw [hK 1 (by omega)]; exact g7) (fun k hk => by rw [hK 42 (by omega)]; exact g8 k hk) hb (k2 0 (by decide)) (k2 1 (by decide)) (k2 2 (by decide)) (k2 3 (by decide)) (k2 4 (by decide))) ?_)
      rintro ⟨r, M⟩ ⟨m1, m2, m3, m4⟩
      dsimp only at m1 m2 m3 m4 ⊢
      rw [i_add, o_b1_s, wp_s, lq_l]
      refine ⟨rfl, nw L' 5, rfl, EX_tr g3 (EX_nw (by omega)), by rw [nw_z]; omega, ?_, fun c c1 c2 c3 => ?_, m1, m2⟩
      · dsimp only
        rw [g5]
        show (11 - i - 1, 55 - 5 * i - 5) = (11 - (i + 1), 55 - 5 * (i + 1))
        rw [show 11 - i - 1 = 11 - (i + 1) by omega, show 55 - 5 * i - 5 = 55 - 5 * (i + 1) by omega]
      · dsimp only
        rw [m3 c c1 c2, hK c (by omega)]
        exact g6 c c1 c2 c3
  · rintro ⟨x, J, G, B⟩ ⟨g1, L', g2, g3, g4, g5, g6, g7, g8⟩
    dsimp only at g1 g2 g4 g5 g6 g7 g8
    subst g1
    subst g2
    unfold m_117_b2
    dsimp only
    rw [if_pos (nI_le (by omega) (by omega)), wp_s, lq_r]
    unfold m_117_x2_119
    rw [wp_s]
    exact ⟨L', rfl, g3, by omega, g6, _, by omega, by omega, g7, fun k hk => by dsimp only; rw [g8 k (by omega), hbT k hk]⟩
