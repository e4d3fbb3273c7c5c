/-! The law's small methods: next, number, word. -/
/-- the law's own arrays up to z are kept, but for x; the script too -/
def FL (z x : Nat) (I J : ai_I) : Prop := ∀ c, ¬ c = x → ((74 < c ∧ c ≤ z) ∨ c = 1999) → J c = I c
theorem FL_rf {z x : Nat} {I : ai_I} : FL z x I I := fun _ _ _ => rfl
theorem FL_tr {z x : Nat} {I J K : ai_I} (h : FL z x I J) (h2 : FL z x J K) : FL z x I K := fun c hx hc => (h2 c hx hc).trans (h c hx hc)
theorem FL_sm {z x : Nat} {I J : ai_I} (h : SM I J) (hz : z < 1999) : FL z x I J := fun c _ hc => h c (by omega)
theorem FL_ot {z x : Nat} {I J : ai_I} (h : ot I J x) : FL z x I J := fun c hx _ => h c hx
theorem FL_z {z y x : Nat} {I J : ai_I} (h : FL z x I J) (hy : y ≤ z) : FL y x I J := fun c hx hc => h c hx (by omega)
theorem ushr9 (x : Int32) : ∃ v, v < 8388608 ∧ (x.toUInt32 >>> ((nI 9).toUInt32 &&& Int32.toUInt32 31)).toInt32 = nI v := by
  have h := ur32 x.toUInt32 ((nI 9).toUInt32 &&& Int32.toUInt32 31) 9 (by decide)
  refine ⟨(x.toUInt32.toBitVec >>> 9).toNat, ?_, ?_⟩
  · rw [BitVec.toNat_ushiftRight, Nat.shiftRight_eq_div_pow]
    have := x.toUInt32.toBitVec.isLt
    omega
  · apply Int32.toBitVec_inj.1
    rw [i_bv, BitVec.ofNat_toNat, BitVec.setWidth_eq, ← h]
    rfl
theorem k_next {I : ai_I} {r : Nat} {L : ai_G} (h : ary L r 1) : wp (m_118 r I (Gc L)) (fun q => ∃ v, v < 8388608 ∧ q.1 = nI v ∧ ot I q.2 r) := by
  unfold m_118
  rw [ay_in h (by decide) (by decide)]
  simp only [o_g_t, o_b1_s]
  obtain ⟨v, v1, v2⟩ := ushr9 (va_up (va_up I r (va_up (I r) (nI 0).toNatClampNeg (((I r (nI 0).toNatClampNeg) * (nI 1103515245)) + (nI 12345)))) r (va_up (va_up I r (va_up (I r) (nI 0).toNatClampNeg (((I r (nI 0).toNatClampNeg) * (nI 1103515245)) + (nI 12345))) r) (nI 0).toNatClampNeg ((va_up I r (va_up (I r) (nI 0).toNatClampNeg (((I r (nI 0).toNatClampNeg) * (nI 1103515245)) + (nI 12345))) r (nI 0).toNatClampNeg) ^^^ ((va_up I r (va_up (I r) (nI 0).toNatClampNeg (((I r (nI 0).toNatClampNeg) * (nI 1103515245)) + (nI 12345))) r (nI 0).toNatClampNeg).toUInt32 >>> ((nI 15).toUInt32 &&& Int32.toUInt32 31)).toInt32)) r (nI 0).toNatClampNeg)
  refine ⟨_, rfl, v, v1, v2, fun c hc => ?_⟩
  dsimp only
  rw [up_ne hc, up_ne hc]
theorem k_rem {v m : Nat} (hv : v < 2147483648) (hm : 0 < m) (hm2 : m < 2147483648) : nI v - nI v / nI m * nI m = nI (v % m) := pk_rem hv hm hm2
theorem k_div {v m : Nat} (hv : v < 2147483648) (hm : 0 < m) (hm2 : m < 2147483648) : nI v / nI m = nI (v / m) := pk_div hv hm hm2
theorem lp_o1 {σ ρ : Type} {b : σ → Option (σ ⊕ ρ)} {s : σ} {r : ρ} (h : b s = some (.inr r)) : lp b o_N s = some r := lp_out (n := 1999999) h
theorem lp_o2 {σ ρ : Type} {b : σ → Option (σ ⊕ ρ)} {s s2 : σ} {r : ρ} (h : b s = some (.inl s2)) (h2 : b s2 = some (.inr r)) : lp b o_N s = some r := (lp_in (n := 1999999) h).trans (lp_out (n := 1999998) h2)
theorem lp_o3 {σ ρ : Type} {b : σ → Option (σ ⊕ ρ)} {s s2 s3 : σ} {r : ρ} (h : b s = some (.inl s2)) (h2 : b s2 = some (.inl s3)) (h3 : b s3 = some (.inr r)) : lp b o_N s = some r := (lp_in (n := 1999999) h).trans ((lp_in (n := 1999998) h2).trans (lp_out (n := 1999997) h3))
/-- the signs of an array -/
def tx (J : ai_I) (t : Nat) : Nat → Nat := fun k => (J t k).toNatClampNeg
theorem tx_at {J : ai_I} {t k b : Nat} (hb : b < 256) (h : J t k = nI b) : tx J t k = b := by
  unfold tx
  rw [h, i_cl (by omega)]
/-- word w, then numbers vs, up to e -/
def TW (J : ai_I) (t : Nat) (w : List Nat) (vs : List Int32) (e : Nat) : Prop := (∀ k, k < e → ∃ b, b < 256 ∧ J t k = nI b) ∧ (∀ i, i < w.length → tx J t i = w.getD i 0) ∧ TXT (tx J t) e w.length vs
/-- the digits of d from y on -/
theorem k_num21 {J : ai_I} {t y d : Nat} {L : ai_G} {x : Int32} (ha : ary L t 240) (hy : y + 2 ≤ 240) (hd : d < 100) (hx : (if 0 ≤ x then x else 0 - x) = nI d) : wp (m_119_j21 t x (Gc L) (nI y) J) (fun q => ot J q.2 t ∧ (∀ k, k < y → q.2 t k = J t k) ∧ ((d < 10 ∧ q.1 = nI (y + 1) ∧ q.2 t y = nI (48 + d)) ∨ (10 ≤ d ∧ q.1 = nI (y + 2) ∧ q.2 t y = nI (48 + d / 10) ∧ q.2 t (y + 1) = nI (48 + d % 10)))) := by
  unfold m_119_j21
  rw [hx, o_b1_s]
  have nz1 : o_nzI (nI 1) = true := by decide
  have nz10 : o_nzI (nI 10) = true := by decide
  by_cases c : d < 10
  · rw [lp_o1 (r := nI 1) (by
      unfold m_119_b30
      rw [nz1, o_g_t, k_div (by omega) (by decide) (by decide), if_pos (nI_le (by omega) (by decide))]), o_s1_s]
    unfold m_119_x30_50
    rw [lp_o2 (s2 := (nI (y + 1), nI 0, va_up J t (va_up (J t) y (nI (48 + d))))) (r := (nI (y + 1), va_up J t (va_up (J t) y (nI (48 + d))))) (by
      unfold m_119_b54
      dsimp only
      rw [if_neg (by decide), nz1, o_g_t, ay_in ha (by omega) (by decide), o_g_t, k_div (by omega) (by decide) (by decide), k_rem (by omega) (by decide) (by decide), i_cl (by omega), i_add, i_add, o_b1_s, o_b1_s, o_b1_s, show d / 1 % 10 = d by omega]
      rfl) (by
      unfold m_119_b54
      dsimp only
      rw [if_pos (by decide)]), o_s1_s]
    unfold m_119_x54_86
    refine ⟨_, rfl, fun k hk => up_ne hk, fun k hk => ?_, Or.inl ⟨c, rfl, ?_⟩⟩
    · dsimp only
      rw [up_eq, up_ne (by omega)]
    · dsimp only
      rw [up_eq, up_eq]
  · rw [lp_o2 (s2 := nI 10) (r := nI 10) (by
      unfold m_119_b30
      rw [nz1, o_g_t, k_div (by omega) (by decide) (by decide), if_neg (nI_ge (by omega) (by omega)), o_b1_s]
      rfl) (by
      unfold m_119_b30
      rw [nz10, o_g_t, k_div (by omega) (by decide) (by decide), if_pos (nI_le (by omega) (by decide))]), o_s1_s]
    unfold m_119_x30_50
    rw [lp_o3 (s2 := (nI (y + 1), nI 1, va_up J t (va_up (J t) y (nI (48 + d / 10))))) (s3 := (nI (y + 2), nI 0, va_up (va_up J t (va_up (J t) y (nI (48 + d / 10)))) t (va_up (va_up (J t) y (nI (48 + d / 10))) (y + 1) (nI (48 + d % 10))))) (r := (nI (y + 2), va_up (va_up J t (va_up (J t) y (nI (48 + d / 10)))) t (va_up (va_up (J t) y (nI (48 + d / 10))) (y + 1) (nI (48 + d % 10))))) (by
      unfold m_119_b54
      dsimp only
      rw [if_neg (by decide), nz10, o_g_t, ay_in ha (by omega) (by decide), o_g_t, k_div (by omega) (by decide) (by decide), k_rem (by omega) (by decide) (by decide), i_cl (by omega), i_add, i_add, o_b1_s, o_b1_s, o_b1_s, show d / 10 % 10 = d / 10 by omega]
      rfl) (by
      unfold m_119_b54
      dsimp only
      rw [if_neg (by decide), nz1, o_g_t, ay_in ha (by omega) (by decide), o_g_t, k_div (by omega) (by decide) (by decide), k_rem (by omega) (by decide) (by decide), i_cl (by omega), i_add, i_add, o_b1_s, o_b1_s, o_b1_s, show d / 1 % 10 = d % 10 by omega, up_eq]
      rfl) (by
      unfold m_119_b54
      dsimp only
      rw [if_pos (by decide)]), o_s1_s]
    unfold m_119_x54_86
    refine ⟨_, rfl, fun k hk => ?_, fun k hk => ?_, Or.inr ⟨by omega, rfl, ?_, ?_⟩⟩
    · dsimp only
      rw [up_ne hk, up_ne hk]
    · dsimp only
      rw [up_eq, up_ne (by omega), up_ne (by omega)]
    · dsimp only
      rw [up_eq, up_ne (by omega), up_eq]
    · dsimp only
      rw [up_eq, up_eq]
/-- what the law writes: a number of two digits at most -/
def sml (v : Int32) : Prop := ∃ d, d < 100 ∧ (v = nI d ∨ (v = -nI d ∧ 1 ≤ d))
theorem sml_n {d : Nat} (h : d < 100) : sml (nI d) := ⟨d, h, Or.inl rfl⟩
theorem neg_all : ∀ d, d < 100 → 1 ≤ d → ¬ 0 ≤ -nI d ∧ 0 - -nI d = nI d := by decide +kernel
theorem k_num {I : ai_I} {t e : Nat} {L : ai_G} {v : Int32} {w : List Nat} {vs : List Int32} (ha : ary L t 240) (he : e + 4 ≤ 240) (hv : sml v) (hT : TW I t w vs e) : wp (m_119 t (nI e) v I (Gc L)) (fun q => ∃ e', q.1 = nI e' ∧ e < e' ∧ e' ≤ e + 4 ∧ ot I q.2 t ∧ TW q.2 t w (vs ++ [v]) e') := by
  obtain ⟨d, hd, hv⟩ := hv
  obtain ⟨t1, t2, t3⟩ := hT
  have hw := (TXT_le t3).1
  -- what holds behind the number
  have fin : ∀ (q : Int32 × ai_I) (l : Nat), 2 ≤ l → l ≤ 4 → q.1 = nI (e + l) → ot I q.2 t → (∀ k, k < e → q.2 t k = I t k) → (∀ k, e ≤ k → k < e + l → ∃ b, b < 256 ∧ q.2 t k = nI b) → NUMT (tx q.2 t) e l v → ∃ e', q.1 = nI e' ∧ e < e' ∧ e' ≤ e + 4 ∧ ot I q.2 t ∧ TW q.2 t w (vs ++ [v]) e' := fun q l h1 h2 h3 h4 h5 h6 h7 => by
    have hx : ∀ k, k < e → tx q.2 t k = tx I t k := fun k hk => by
      unfold tx
      rw [h5 k hk]
    refine ⟨e + l, h3, by omega, by omega, h4, fun k hk => ?_, fun i hi => ?_, TXT_add (TXT_cong t3 (fun k _ hk => hx k hk)) h7⟩
    · by_cases c : k < e
      · rw [h5 k c]
        exact t1 k c
      · exact h6 k (by omega) hk
    · rw [hx i (by omega)]
      exact t2 i hi
  unfold m_119
  rw [i_add, o_b1_s, ay_in ha (by omega) (by decide), o_g_t, i_cl (by omega), o_b1_s]
  rcases hv with rfl | ⟨rfl, hd1⟩
  · rw [q_p0 (by omega)]
    refine wp_mono (k_num21 (J := va_up I t (va_up (I t) e (nI 32))) (x := nI d) ha (show e + 1 + 2 ≤ 240 by omega) hd (q_p0 (by omega))) ?_
    rintro q ⟨q1, q2, q3⟩
    have f1 : ot I q.2 t := fun k hk => (q1 k hk).trans (up_ne hk)
    have f2 : ∀ k, k < e → q.2 t k = I t k := fun k hk => by rw [q2 k (by omega), up_eq, up_ne (by omega)]
    have f3 : q.2 t e = nI 32 := by rw [q2 e (by omega), up_eq, up_eq]
    rcases q3 with ⟨g1, g2, g3⟩ | ⟨g1, g2, g3, g4⟩
    · refine fin q 2 (by decide) (by decide) g2 f1 f2 (fun k k1 k2 => ?_) ⟨tx_at (by decide) f3, Or.inl ⟨d, g1, rfl, rfl, tx_at (by omega) g3⟩⟩
      rcases (by omega : k = e ∨ k = e + 1) with rfl | rfl
      · exact ⟨32, by decide, f3⟩
      · exact ⟨48 + d, by omega, g3⟩
    · refine fin q 3 (by decide) (by decide) g2 f1 f2 (fun k k1 k2 => ?_) ⟨tx_at (by decide) f3, Or.inr (Or.inl ⟨d, g1, hd, rfl, rfl, tx_at (by omega) g3, tx_at (by omega) g4⟩)⟩
      rcases (by omega : k = e ∨ k = e + 1 ∨ k = e + 2) with rfl | rfl | rfl
      · exact ⟨32, by decide, f3⟩
      · exact ⟨48 + d / 10, by omega, g3⟩
      · exact ⟨48 + d % 10, by omega, g4⟩
  · obtain ⟨n1, n2⟩ := neg_all d hd hd1
    rw [if_neg n1, ay_in ha (by omega) (by decide), o_g_t, i_cl (by omega), o_b1_s, i_add, o_b1_s]
    refine wp_mono (k_num21 (J := va_up (va_up I t (va_up (I t) e (nI 32))) t (va_up (va_up I t (va_up (I t) e (nI 32)) t) (e + 1) (nI 45))) (x := -nI d) ha (show e + 1 + 1 + 2 ≤ 240 by omega) hd (by rw [if_neg n1, n2])) ?_
    rintro q ⟨q1, q2, q3⟩
    have f1 : ot I q.2 t := fun k hk => (q1 k hk).trans ((up_ne hk).trans (up_ne hk))
    have f2 : ∀ k, k < e → q.2 t k = I t k := fun k hk => by rw [q2 k (by omega), up_eq, up_ne (by omega), up_eq, up_ne (by omega)]
    have f3 : q.2 t e = nI 32 := by rw [q2 e (by omega), up_eq, up_ne (by omega), up_eq, up_eq]
    have f4 : q.2 t (e + 1) = nI 45 := by rw [q2 (e + 1) (by omega), up_eq, up_eq]
    rcases q3 with ⟨g1, g2, g3⟩ | ⟨g1, g2, g3, g4⟩
    · refine fin q 3 (by decide) (by decide) g2 f1 f2 (fun k k1 k2 => ?_) ⟨tx_at (by decide) f3, Or.inr (Or.inr (Or.inl ⟨d, g1, rfl, rfl, tx_at (by decide) f4, tx_at (by omega) g3⟩))⟩
      rcases (by omega : k = e ∨ k = e + 1 ∨ k = e + 2) with rfl | rfl | rfl
      · exact ⟨32, by decide, f3⟩
      · exact ⟨45, by decide, f4⟩
      · exact ⟨48 + d, by omega, g3⟩
    · refine fin q 4 (by decide) (by decide) g2 f1 f2 (fun k k1 k2 => ?_) ⟨tx_at (by decide) f3, Or.inr (Or.inr (Or.inr ⟨d, g1, hd, rfl, rfl, tx_at (by decide) f4, tx_at (by omega) g3, tx_at (by omega) g4⟩))⟩
      rcases (by omega : k = e ∨ k = e + 1 ∨ k = e + 2 ∨ k = e + 3) with rfl | rfl | rfl | rfl
      · exact ⟨32, by decide, f3⟩
      · exact ⟨45, by decide, f4⟩
      · exact ⟨48 + d / 10, by omega, g3⟩
      · exact ⟨48 + d % 10, by omega, g4⟩
theorem k_word {I : ai_I} {t a m : Nat} {L : ai_G} {w : List Nat} (ha : ary L t 240) (hb : ary L a m) (hta : ¬ a = t) (hm : w.length = m) (hm2 : m ≤ 8) (hw : ∀ i, i < m → w.getD i 0 < 256 ∧ I a i = nI (w.getD i 0)) : wp (m_120 t (nI 0) a I (Gc L)) (fun q => q.1 = nI m ∧ ot I q.2 t ∧ TW q.2 t w [] m) := by
  have hn : (Gc L).2.1 a = m := ay_n hb
  unfold m_120
  rw [if_pos (by decide)]
  unfold m_120_j14
  refine wp_s1 (wp_lp (fun i s => s.1 = nI i ∧ ot I s.2 t ∧ ∀ k, k < i → s.2 t k = nI (w.getD k 0)) 0 m (Nat.zero_le _) (by omega) ⟨rfl, fun _ _ => rfl, fun k hk => absurd hk (Nat.not_lt_zero _)⟩ ?_ ?_)
  · rintro i ⟨x, J⟩ hi ⟨h1, h2, h3⟩
    dsimp only at h1 h2 h3
    subst h1
    unfold m_120_b17
    dsimp only
    rw [ay_al hb, o_g_t, hn, show Int32.ofNat m = nI m from rfl, if_neg (nI_ge hi (by omega)), ay_in hb hi (by omega), o_g_t, i_add, ay_in ha (by omega) (by decide), o_g_t, i_cl (by omega), i_cl (by omega), o_b1_s, i_add, o_b1_s, wp_s, lq_l, Nat.zero_add]
    refine ⟨rfl, fun k hk => by dsimp only; rw [up_ne hk]; exact h2 k hk, fun k hk => ?_⟩
    dsimp only
    rw [up_eq]
    by_cases c : k = i
    · rw [c, up_eq, h2 a hta, (hw i hi).2]
    · rw [up_ne c]
      exact h3 k (by omega)
  · rintro ⟨x, J⟩ ⟨h1, h2, h3⟩
    dsimp only at h1 h2 h3
    subst h1
    unfold m_120_b17
    dsimp only
    rw [ay_al hb, o_g_t, hn, show Int32.ofNat m = nI m from rfl, if_pos (Int32.le_refl _), wp_s, lq_r]
    unfold m_120_x17_40
    rw [ay_al hb, o_g_t, hn, show Int32.ofNat m = nI m from rfl, i_add, Nat.zero_add, wp_s]
    refine ⟨rfl, h2, fun k hk => ⟨_, (hw k hk).1, h3 k hk⟩, fun i hi => tx_at (hw i (by omega)).1 (h3 i (by omega)), ?_⟩
    show w.length = m
    exact hm
