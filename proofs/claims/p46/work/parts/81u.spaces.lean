/-! The law's test of spaces, the whole. -/
section
variable {I J : ai_I} {t s v p n r : Nat} {L : ai_G} {A : SV}
abbrev flA (A : SV) (s n r : Nat) : Nat → Bool := flq (A.2.2.1 s) A.2.2.2 (2 ^ n - 1) r
abbrev pcA (r : Nat) : Nat → Bool := fun y => decide (pc y = r - 1)
/-- the law's tally below k -/
def SI (I : ai_I) (L : ai_G) (A : SV) (s n r k : Nat) (ok f w x y : Int32) (J : ai_I) (G : ai_G) (B : Nat × Nat) : Prop := ok = nI 1 ∧ f = nI (fln (flA A s n r) k) ∧ w = nI (fln (pFz (A.2.2.1 s) (r - 1)) k) ∧ x = nI (fln (spq (A.2.2.1 s) n r) k) ∧ y = nI k ∧ SK L.2.2 I J ∧ ∃ L', G = Gc L' ∧ EX L L' ∧ L'.2.2 = L.2.2 + fln (pcA r) k ∧ B = (24 - fln (pcA r) k, 192 - 8 * fln (pcA r) k)
theorem k_s76 {k : Nat} {f w x : Int32} {G : ai_G} {B : Nat × Nat} {R : Int32 × Int32 × Int32 × Int32 × ai_I × ai_G × Nat × Nat → Prop} (h : KA I A) (hs : s < 4) (hn : A.1 s = n) (hr : A.2.1 s = r) (hn7 : n < 7) (hv : ary L v 256) (hV : HV I v (A.2.2.1 s)) (hz : 74 ≤ L.2.2) (hz9 : L.2.2 + 24 < 900) (hk : k < 2 ^ n) (hf : f = nI (fln (flA A s n r) (k + 1))) (hw : w = nI (fln (pFz (A.2.2.1 s) (r - 1)) k)) (hx : x = nI (fln (spq (A.2.2.1 s) n r) k)) (hS : SK L.2.2 I J) (hG : ∃ L', G = Gc L' ∧ EX L L' ∧ L'.2.2 = L.2.2 + fln (pcA r) k ∧ B = (24 - fln (pcA r) k, 192 - 8 * fln (pcA r) k)) : wp (m_131_j76 (nI n) (nI r) v w x (nI k) G B (nI 1) f J) (lq (fun z => SI I L A s n r (k + 1) z.1 z.2.1 z.2.2.1 z.2.2.2.1 z.2.2.2.2.1 z.2.2.2.2.2.1 z.2.2.2.2.2.2.1 z.2.2.2.2.2.2.2) R) := by
  have hW := (KA_s h hs).1
  rw [hn, hr] at hW
  have hr1 := hW.2.2.1
  have hrn := hW.2.2.2.1
  have hn8 := hW.2.1
  have h64 : 2 ^ n ≤ 64 := Nat.pow_le_pow_right (n := 2) (j := 6) (by decide) (by omega)
  have hv1 := hv.1
  have hv2 := hv.2.1
  have hpc := pc_le k
  have hcnt : fln (pcA r) (k + 1) ≤ 20 := by
    have h1 := fln_mono (p := pcA r) (2 ^ n - (k + 1)) (k + 1) (2 ^ n) (by omega)
    have h2 := pc_cnt6 n hn7 (r - 1) (by omega)
    exact Nat.le_trans h1 h2
  obtain ⟨L', g1, g2, g3, g4⟩ := hG
  subst g1
  unfold m_131_j76
  rw [s_331 (by omega), o_b1_s, i_sub (by omega), q_eq (by omega) (by omega)]
  by_cases c1 : pc k = r - 1
  · have e1 : fln (pcA r) (k + 1) = fln (pcA r) k + 1 := by rw [fln_succ, if_pos (decide_eq_true c1)]
    rw [e1] at hcnt
    rw [if_pos c1]
    refine al_b (by omega) (by omega) (by rw [g4]; dsimp only; omega) ?_
    have hm := nw_new (L := L') (n := 8) (by omega)
    have hvL := nw_old (n := 8) (g2.2.1 v 256 hv)
    have hS2 : SK L.2.2 I (va_up J (L'.2.2 + 1) (fun _ => 0)) := SK_tr hS (SK_ot (x := L'.2.2 + 1) (fun c hc => up_ne hc) (by omega) (by omega) (by omega))
    have hV2 : HV (va_up J (L'.2.2 + 1) (fun _ => 0)) v (A.2.2.1 s) := HV_of hV (hS2 v (by omega))
    have hz0 : ∀ e, e < 8 → va_up J (L'.2.2 + 1) (fun _ => 0) (L'.2.2 + 1) e = 0 := fun e _ => by rw [up_eq]
    generalize va_up J (L'.2.2 + 1) (fun _ => 0) = K at hS2 hV2 hz0
    refine wp_s1 (wp_mono (k_sp99 (I0 := I) hn8 hvL hm (by omega) hV2 (show k < 256 by omega) hz0) ?_)
    rintro ⟨a, M⟩ ⟨m1, m2, m3⟩
    dsimp only at m1 m2 m3 ⊢
    subst m1
    have hlt := hvs_lt (A.2.2.1 s) k n
    have hVM : HV M v (A.2.2.1 s) := HV_of hV2 (m2 v (by omega))
    unfold m_131_x99_160
    refine wp_s1 (wp_mono (k_sp166 (num := nmH (A.2.2.1 s) k n) hW hvL hm hVM (fun e he => ⟨m3 e he, nmH_b hW hk he⟩) (by omega)) ?_)
    intro q hq
    rw [hq]
    have hcong : cnt (flq (A.2.2.1 s) (nmH (A.2.2.1 s) k n) (hvs (A.2.2.1 s) k n) r) n = cnt (flq (A.2.2.1 s) (fun e => A.2.2.1 s (k ||| 2 ^ e)) (hvs (A.2.2.1 s) k n) r) n := flq_conh (fun e _ he => by
      unfold nmH
      rw [if_pos he])
    have hcn : fln (flq (A.2.2.1 s) (nmH (A.2.2.1 s) k n) (hvs (A.2.2.1 s) k n) r) (2 ^ n) = cnt (flq (A.2.2.1 s) (fun e => A.2.2.1 s (k ||| 2 ^ e)) (hvs (A.2.2.1 s) k n) r) n := hcong
    rw [hcn]
    have hS3 : SK L.2.2 I M := SK_tr hS2 (SK_ot m2 (by omega) (by omega) (by omega))
    -- how it goes on
    have fin : ∀ w' x' : Nat, w' = fln (pFz (A.2.2.1 s) (r - 1)) (k + 1) → x' = fln (spq (A.2.2.1 s) n r) (k + 1) → SI I L A s n r (k + 1) (nI 1) f (nI w') (nI x') (nI (k + 1)) M (Gc (nw L' 8)) (B.1 - 1, B.2 - 8) := fun w' x' hw' hx' => ⟨rfl, hf, by rw [hw'], by rw [hx'], rfl, hS3, nw L' 8, rfl, EX_tr g2 (EX_nw (by omega)), by rw [nw_z, g3, e1]; omega, by rw [g4, e1]; exact Prod.ext (by dsimp only; omega) (by dsimp only; omega)⟩
    have hpf := pFz_iff hW hk c1
    unfold m_131_x166_217 m_131_j229
    rw [hw, hx]
    by_cases c2 : hvs (A.2.2.1 s) k n = 0
    · have e2 : pFz (A.2.2.1 s) (r - 1) k = false := Bool.eq_false_iff.2 (fun h9 => (hpf.1 h9) c2)
      have e3 : spq (A.2.2.1 s) n r k = false := by
        unfold spq
        rw [e2, Bool.false_and]
      have hc : nI (hvs (A.2.2.1 s) k n) ≤ 0 := by
        rw [i_le0 (by omega)]
        exact c2
      rw [if_pos hc, i_add, o_b1_s, if_pos hc, i_add, o_b1_s, i_add, o_b1_s, wp_s, lq_l]
      exact fin _ _ (by rw [fln_succ, e2, if_neg Bool.false_ne_true, Nat.add_zero]) (by rw [fln_succ, e3, if_neg Bool.false_ne_true, Nat.add_zero])
    · have e2 : pFz (A.2.2.1 s) (r - 1) k = true := hpf.2 c2
      have hc : ¬ nI (hvs (A.2.2.1 s) k n) ≤ 0 := fun h9 => by
        rw [i_le0 (by omega)] at h9
        exact c2 h9
      rw [if_neg hc, i_add, o_b1_s, if_neg hc, q_bz]
      by_cases c3 : cnt (flq (A.2.2.1 s) (fun e => A.2.2.1 s (k ||| 2 ^ e)) (hvs (A.2.2.1 s) k n) r) n = 0
      · have e3 : spq (A.2.2.1 s) n r k = true := by
          unfold spq
          rw [e2, decide_eq_true c3]
          rfl
        rw [if_pos c3, i_add, o_b1_s, i_add, o_b1_s, wp_s, lq_l]
        exact fin _ _ (by rw [fln_succ, if_pos e2]) (by rw [fln_succ, if_pos e3])
      · have e3 : spq (A.2.2.1 s) n r k = false := by
          unfold spq
          rw [decide_eq_false c3, Bool.and_false]
        rw [if_neg c3, i_add, o_b1_s, i_add, o_b1_s, wp_s, lq_l]
        exact fin _ _ (by rw [fln_succ, if_pos e2]) (by rw [fln_succ, e3, if_neg Bool.false_ne_true, Nat.add_zero])
  · obtain ⟨e2, e3⟩ := spq_no (V := A.2.2.1 s) (n := n) c1
    have e1 : fln (pcA r) (k + 1) = fln (pcA r) k := by rw [fln_succ, if_neg (fun h9 => c1 (of_decide_eq_true h9))]
    rw [if_neg c1, i_add, o_b1_s, wp_s, lq_l]
    exact ⟨rfl, hf, by dsimp only; rw [hw, fln_succ, e2, if_neg Bool.false_ne_true], by dsimp only; rw [hx, fln_succ, e3, if_neg Bool.false_ne_true], rfl, hS, L', rfl, g2, by rw [g3, e1], by dsimp only; rw [g4, e1]⟩
theorem k_s15 {k : Nat} {ok f w x : Int32} {G : ai_G} {B : Nat × Nat} {R : Int32 × Int32 × Int32 × Int32 × ai_I × ai_G × Nat × Nat → Prop} (h : KA I A) (hs : s < 4) (hn : A.1 s = n) (hr : A.2.1 s = r) (hn7 : n < 7) (hv : ary L v 256) (hV : HV I v (A.2.2.1 s)) (hp : ary L p 8) (hP : ∀ e, e < 8 → I p e = A.2.2.2 e) (hz : 74 ≤ L.2.2) (hz9 : L.2.2 + 24 < 900) (hk : k < 2 ^ n) (hI : SI I L A s n r k ok f w x (nI k) J G B) : wp (m_131_b15 1 (nI s) (nI n) (nI r) v p (Rc t) ok f w x (nI k) J G B) (lq (fun z => SI I L A s n r (k + 1) z.1 z.2.1 z.2.2.1 z.2.2.2.1 z.2.2.2.2.1 z.2.2.2.2.2.1 z.2.2.2.2.2.2.1 z.2.2.2.2.2.2.2) R) := by
  have hW := (KA_s h hs).1
  rw [hn, hr] at hW
  have hr1 := hW.2.2.1
  have hrn := hW.2.2.2.1
  have hn8 := hW.2.1
  have h64 : 2 ^ n ≤ 64 := Nat.pow_le_pow_right (n := 2) (j := 6) (by decide) (by omega)
  have hv1 := hv.1
  have hp1 := hp.1
  have hv2 := hv.2.1
  have hp2 := hp.2.1
  have hpc := pc_le k
  obtain ⟨i1, i2, i3, i4, -, i6, L', i7, i8, i9, i10⟩ := hI
  subst i1
  subst i7
  have hsh : nI 1 <<< (nI n &&& 31) = nI (2 ^ n) := by rw [i_shl (by decide) (by omega), Nat.one_mul]
  have hle := fln_le (flA A s n r) k
  have hJ := KA_sk h i6
  have hVJ : HV J v (A.2.2.1 s) := HV_of hV (i6 v (by omega))
  have fin : ∀ K, SK L.2.2 I K → f = nI (fln (flA A s n r) (k + 1)) → wp (m_131_j76 (nI n) (nI r) v w x (nI k) (Gc L') B (nI 1) f K) (lq (fun z => SI I L A s n r (k + 1) z.1 z.2.1 z.2.2.1 z.2.2.2.1 z.2.2.2.2.1 z.2.2.2.2.2.1 z.2.2.2.2.2.2.1 z.2.2.2.2.2.2.2) R) := fun K hK hf => k_s76 (R := R) h hs hn hr hn7 hv hV hz hz9 hk hf i3 i4 hK ⟨L', rfl, i8, i9, i10⟩
  unfold m_131_b15
  rw [hsh, q_leF (by omega) hk, s_331 (by omega), o_b1_s, i_add, q_eq (by omega) (by omega)]
  by_cases c1 : pc k = r + 1
  · rw [if_pos c1, k_twice (P := A.2.2.2) hW (i8.2.1 v 256 hv) hVJ (i8.2.1 p 8 hp) (fun e he => by
      have hb := (KA_p h e he).2
      rw [Int32.le_iff_toInt_le, Int32.le_iff_toInt_le, show (-1000 : Int32).toInt = -1000 from by decide, show (1000 : Int32).toInt = 1000 from by decide] at hb
      exact ⟨by rw [i6 p (by omega)]; exact hP e he, by omega, by omega⟩) (by decide) (show k < 256 by omega), o_b1_s, q_bz, tws_255 hk hn8]
    by_cases c2 : (tws (A.2.2.1 s) A.2.2.2 (2 ^ n - 1) k).2 = 1
    · have e1 : flA A s n r k = true := by
        show flq (A.2.2.1 s) A.2.2.2 (2 ^ n - 1) r k = true
        unfold flq
        rw [decide_eq_true c1, decide_eq_true c2]
        rfl
      rw [if_neg (fun h9 => h9 c2), q_10, k_1, o_g_t, i2]
      refine wp_b2 (wp_mono (k_fail (t := t) (L := L') hJ hs (show fln (flA A s n r) k < 1000 by omega)) ?_)
      rintro ⟨a, K⟩ ⟨a1, a2⟩
      dsimp only at a1 a2 ⊢
      have ha : a = nI k := by
        rw [a2, hn, hr]
        exact pf_at hk e1
      rw [if_pos ha]
      unfold m_131_j71
      rw [i_add, o_b1_s]
      have hf : nI (fln (flA A s n r) k + 1) = nI (fln (flA A s n r) (k + 1)) := by rw [fln_succ, if_pos e1]
      rw [hf]
      exact k_s76 (R := R) h hs hn hr hn7 hv hV hz hz9 hk rfl i3 i4 (SK_tr i6 (SK_sm a1 (by omega))) ⟨L', rfl, i8, i9, i10⟩
    · have e1 : flA A s n r k = false := by
        show flq (A.2.2.1 s) A.2.2.2 (2 ^ n - 1) r k = false
        unfold flq
        rw [decide_eq_false c2, Bool.and_false]
      rw [if_pos c2]
      exact fin J i6 (by rw [i2, fln_succ, e1, if_neg Bool.false_ne_true])
  · have e1 : flA A s n r k = false := by
      show flq (A.2.2.1 s) A.2.2.2 (2 ^ n - 1) r k = false
      unfold flq
      rw [decide_eq_false c1, Bool.false_and]
    rw [if_neg c1]
    exact fin J i6 (by rw [i2, fln_succ, e1, if_neg Bool.false_ne_true])
theorem k_spaces (h : KA I A) (hs : s < 4) (hn : A.1 s = n) (hr : A.2.1 s = r) (hn7 : n < 7) (hv : ary L v 256) (hV : HV I v (A.2.2.1 s)) (hp : ary L p 8) (hP : ∀ e, e < 8 → I p e = A.2.2.2 e) (hz : 74 ≤ L.2.2) (hz9 : L.2.2 + 24 < 900) : wp (m_131 1 (nI s) (nI n) (nI r) v p I (Rc t) (Gc L)) (fun q => q.1 = nI 1 ∧ (∃ L', q.2.2 = Gc L' ∧ EX L L' ∧ L'.2.2 ≤ L.2.2 + 20) ∧ SK L.2.2 I q.2.1) := by
  have hW := (KA_s h hs).1
  rw [hn, hr] at hW
  have hr1 := hW.2.2.1
  have hrn := hW.2.2.2.1
  have hn8 := hW.2.1
  have h64 : 2 ^ n ≤ 64 := Nat.pow_le_pow_right (n := 2) (j := 6) (by decide) (by omega)
  have hsh : nI 1 <<< (nI n &&& 31) = nI (2 ^ n) := by rw [i_shl (by decide) (by omega), Nat.one_mul]
  unfold m_131
  rw [o_b1_s]
  refine wp_s1 (wp_mono (wp_lp (Q := fun q : Int32 × Int32 × Int32 × Int32 × ai_I × ai_G × Nat × Nat => SI I L A s n r (2 ^ n) q.1 q.2.1 q.2.2.1 q.2.2.2.1 (nI (2 ^ n)) q.2.2.2.2.1 q.2.2.2.2.2.1 q.2.2.2.2.2.2) (fun k z => SI I L A s n r k z.1 z.2.1 z.2.2.1 z.2.2.2.1 z.2.2.2.2.1 z.2.2.2.2.2.1 z.2.2.2.2.2.2.1 z.2.2.2.2.2.2.2) 0 (2 ^ n) (Nat.zero_le _) (by omega) ⟨rfl, rfl, rfl, rfl, rfl, SK_rf, L, rfl, EX_rf, rfl, rfl⟩ ?_ ?_) ?_)
  · rintro k ⟨ok, f, w, x, y, J, G, B⟩ hk hI
    dsimp only at hI
    have hy : y = nI k := hI.2.2.2.2.1
    subst hy
    exact k_s15 (R := fun q : Int32 × Int32 × Int32 × Int32 × ai_I × ai_G × Nat × Nat => SI I L A s n r (2 ^ n) q.1 q.2.1 q.2.2.1 q.2.2.2.1 (nI (2 ^ n)) q.2.2.2.2.1 q.2.2.2.2.2.1 q.2.2.2.2.2.2) h hs hn hr hn7 hv hV hp hP hz hz9 hk hI
  · rintro ⟨ok, f, w, x, y, J, G, B⟩ hI
    dsimp only at hI
    have hy : y = nI (2 ^ n) := hI.2.2.2.2.1
    subst hy
    unfold m_131_b15
    dsimp only
    rw [hsh, q_leT (by omega) (Nat.le_refl _), wp_s, lq_r]
    exact hI
  · rintro ⟨ok, f, w, x, J, G, B⟩ ⟨i1, i2, i3, i4, -, i6, L', i7, i8, i9, i10⟩
    dsimp only at i1 i2 i3 i4 i6 i7 i8 i9 i10 ⊢
    subst i1
    subst i7
    have hJ := KA_sk h i6
    have hle := fln_le (flA A s n r) (2 ^ n)
    have hcnt : fln (pcA r) (2 ^ n) ≤ 20 := pc_cnt6 n hn7 (r - 1) (by omega)
    have hL : ∃ L'', (Gc L' : ai_G) = Gc L'' ∧ EX L L'' ∧ L''.2.2 ≤ L.2.2 + 20 := ⟨L', rfl, i8, by omega⟩
    have hcn : cnt (flq (A.2.2.1 s) A.2.2.2 (2 ^ A.1 s - 1) (A.2.1 s)) (A.1 s) = fln (flA A s n r) (2 ^ n) := by
      rw [hn, hr]
      rfl
    unfold m_131_x15_258
    rw [q_10, k_1, o_g_t]
    refine wp_b2 (wp_mono (k_fail_c (t := t) (L := L') hJ hs) ?_)
    rintro ⟨a, K⟩ ⟨a1, a2⟩
    dsimp only at a1 a2 ⊢
    rw [hcn] at a2
    rw [i2, if_pos a2]
    refine wp_b2 (wp_mono (k_fail (t := t) (L := L') (KA_sm hJ a1) hs (show fln (flA A s n r) (2 ^ n) < 1000 by omega)) ?_)
    rintro ⟨b, K2⟩ ⟨b1, b2⟩
    dsimp only at b1 b2 ⊢
    have hb : b = -4 := by
      rw [b2, hn, hr]
      exact pf_no
    rw [if_pos hb]
    have h2 := SM_tr a1 b1
    refine wp_b2 (wp_mono (k_space (t := t) (L := L') (KA_sm hJ h2) hs) ?_)
    rintro ⟨c, K3⟩ ⟨c1, c2⟩
    dsimp only at c1 c2 ⊢
    rw [hcn] at c2
    have h3 := SM_tr h2 c1
    have h3A := KA_sm hJ h3
    rw [q_e0 (by omega)]
    have fin : ∀ e, c = e → wp (m_131_j301 1 (nI s) (Rc t) w x (Gc L') c K3 e) (fun q => q.1 = nI 1 ∧ (∃ L', q.2.2 = Gc L' ∧ EX L L' ∧ L'.2.2 ≤ L.2.2 + 20) ∧ SK L.2.2 I q.2.1) := fun e he => by
      have hw : nI (fln (pFz (A.2.2.1 s) (A.2.1 s - 1)) (2 ^ A.1 s)) = w := by
        rw [hn, hr]
        exact i3.symm
      unfold m_131_j301
      rw [if_pos he, k_span0 h3A hs, o_b2_s, if_pos hw]
      refine wp_b2 (wp_mono (k_span1 (t := t) (L := L') h3A hs) ?_)
      rintro ⟨d, K4⟩ ⟨d1, d2⟩
      dsimp only at d1 d2 ⊢
      have hx : d = x := by
        rw [d2, hn, hr]
        exact i4.symm
      rw [if_pos hx]
      have h4 := SM_tr h3 d1
      refine wp_b2 (wp_mono (k_sh7 (t := t) (L := L') (KA_sm hJ h4) hs) ?_)
      rintro ⟨u, K5⟩ ⟨u1, u2⟩
      dsimp only at u1 u2 ⊢
      have h5 : SK L.2.2 I K5 := SK_tr i6 (SK_sm (SM_tr h4 u1) (by omega))
      by_cases c0 : u = 0
      · rw [if_pos c0, wp_s]
        exact ⟨rfl, hL, h5⟩
      · have hlaw : fln (flt (A.2.2.1 s)) 524288 = 0 := by
          refine Classical.byContradiction (fun h9 => c0 ?_)
          rw [u2]
          exact bz_f h9
        have hX := LXV_of hW hlaw
        have hfe : fln (spq (A.2.2.1 s) n r) (2 ^ n) = fln (pFz (A.2.2.1 s) (r - 1)) (2 ^ n) := fln_cong (2 ^ n) (fun k hk => by
          have hc0 : cnt (flq (A.2.2.1 s) (fun e => A.2.2.1 s (k ||| 2 ^ e)) (hvs (A.2.2.1 s) k n) r) n = 0 := by
            show fln _ (2 ^ n) = 0
            refine (fln_gap (2 ^ n) 0 (2 ^ n) (by omega) (fun T _ hT => ?_)).trans rfl
            unfold flq
            rw [decide_eq_false (law_span hW hX hk hT), Bool.and_false]
          unfold spq
          rw [decide_eq_true hc0, Bool.and_true])
        have hxw : x = w := by rw [i3, i4, hfe]
        rw [if_neg c0, if_pos hxw, wp_s]
        exact ⟨rfl, hL, h5⟩
    by_cases c0 : fln (flA A s n r) (2 ^ n) = 0
    · rw [if_pos c0]
      exact fin _ (c2.trans (bz_t c0))
    · rw [if_neg c0]
      exact fin _ (c2.trans (bz_f c0))
end
