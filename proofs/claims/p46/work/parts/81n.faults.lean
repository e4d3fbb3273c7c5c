/-! The law's test of faults. -/
/-- the class has but worked, and the law has drawn -/
def SMr (I J : ai_I) (r : Nat) : Prop := ∀ c, (c < 43 ∨ 74 < c) → ¬ c = r → J c = I c
theorem SMr_rf {I : ai_I} {r : Nat} : SMr I I r := fun _ _ _ => rfl
theorem SMr_tr {I J K : ai_I} {r : Nat} (h : SMr I J r) (h2 : SMr J K r) : SMr I K r := fun c hc h9 => (h2 c hc h9).trans (h c hc h9)
theorem SMr_sm {I J K : ai_I} {r : Nat} (h : SMr I J r) (h2 : SM J K) : SMr I K r := fun c hc h9 => (h2 c hc).trans (h c hc h9)
theorem SMr_ot {I J K : ai_I} {r : Nat} (h : SMr I J r) (h2 : ot J K r) : SMr I K r := fun c hc h9 => (h2 c h9).trans (h c hc h9)
theorem KA_smr {I J : ai_I} {A : SV} {r : Nat} (h : KA I A) (hr : 74 < r) (e : SMr I J r) : KA J A := KA_f h (fun c _ h2 => e c (by omega) (by omega))
theorem HV_smr {I J : ai_I} {V : Nat → Int32} {v r : Nat} (h : HV I v V) (hv : 74 < v) (hvr : ¬ v = r) (e : SMr I J r) : HV J v V := HV_of h (e v (Or.inr hv) hvr)
theorem fndE_n {g : Nat → Bool} : (0 ≤ fndE ((List.range 8).find? g)) = (((List.range 8).find? g).isNone = false) := by
  cases h : (List.range 8).find? g with
  | none => exact propext ⟨fun h => absurd h (by decide), fun h => by cases h⟩
  | some j =>
    have hj : j < 8 := List.mem_range.1 (List.mem_of_find?_eq_some h)
    exact propext ⟨fun _ => rfl, fun _ => nI_pos' (by omega)⟩
theorem fndE_m {g : Nat → Bool} : (fndE ((List.range 8).find? g) < 0) = (((List.range 8).find? g).isNone = true) := by
  have h := fndE_n (g := g)
  apply propext
  constructor
  · intro h9
    cases e : ((List.range 8).find? g).isNone with
    | true => rfl
    | false => exact absurd (h.symm.mp e) (Int32.not_le.2 h9)
  · intro h9
    refine Int32.not_le.1 (fun h8 => ?_)
    rw [h.mp h8] at h9
    cases h9
section
variable {I J : ai_I} {t s v r a b i : Nat} {L : ai_G} {A : SV} {V : Nat → Int32}
theorem k_f181 {y5 t0 x : Int32} {R : Int32 × Int32 × Int32 × ai_I → Prop} (h : KA J A) (hs : s < 4) (hr : ary L r 1) (ha : a < 256) (hb : b < 256) (hVa : A.2.2.1 s a ≠ NO) (hVb : A.2.2.1 s b ≠ NO) (c1 : a.testBit i = true) (c2 : b.testBit i = false) (hx : x = fndE ((List.range 8).find? (good (A.2.2.1 s) a b i))) : wp (m_128_j181 1 (nI s) r (Rc t) (Gc L) (nI a) (nI b) (nI i) x (nI 1) y5 J t0) (lq (fun z => z.1 = nI 1 ∧ z.2.1 = y5 ∧ z.2.2.1 = t0 ∧ z.2.2.2.1 = nI (i + 1) ∧ SMr J z.2.2.2.2 r) R) := by
  have hr1 := hr.1
  unfold m_128_j181
  rw [q_10]
  refine wp_b2 (wp_mono (k_next hr) ?_)
  rintro ⟨u, K⟩ ⟨u', u1, u2, u3⟩
  dsimp only at u2 u3 ⊢
  subst u2
  have hS : SMr J K r := SMr_ot SMr_rf u3
  have hK := KA_smr h hr1 hS
  rw [k_rem (by omega) (by decide) (by decide), q_0lt (by omega)]
  by_cases c : 0 < u' % 17
  · rw [if_pos c, i_add, o_b1_s, wp_s, lq_l]
    exact ⟨rfl, rfl, rfl, rfl, hS⟩
  · rw [if_neg c, k_1, o_g_t, k_exchange hK hs ha hb hVa hVb c1 c2, o_b1_s, if_pos hx.symm, i_add, o_b1_s, wp_s, lq_l]
    exact ⟨rfl, rfl, rfl, rfl, hS⟩
/-- the law's tally up to place c -/
def FI (V : Nat → Int32) (c : Nat) (ok n m : Int32) : Prop := ok = nI 1 ∧ n = nI (fln (flt V) c) ∧ m = bz (fln (flt (pl V 1)) c = 0)
theorem FI_eq {c d : Nat} {ok n m : Int32} (h : FI V c ok n m) (e1 : fln (flt V) d = fln (flt V) c) (e2 : fln (flt (pl V 1)) d = fln (flt (pl V 1)) c) : FI V d ok n m := by
  obtain ⟨h1, h2, h3⟩ := h
  refine ⟨h1, by rw [e1]; exact h2, ?_⟩
  rw [h3, e2]
theorem k_f157 {x : Int32} {R : Int32 × Int32 × Int32 × ai_I → Prop} (h : KA J A) (hs : s < 4) (hr : ary L r 1) (hv : ary L v 256) (hV : HV J v (A.2.2.1 s)) (ha : a < 256) (hb : b < 256) (hi : i < 8) (hVa : A.2.2.1 s a ≠ NO) (hVb : A.2.2.1 s b ≠ NO) (c1 : a.testBit i = true) (c2 : b.testBit i = false) (hx : x = fndE ((List.range 8).find? (good (A.2.2.1 s) a b i))) : wp (m_128_j157 1 (nI s) v r (Rc t) (Gc L) (nI a) (nI b) (bz (fln (flt (pl (A.2.2.1 s) 1)) (2048 * a + 8 * b + i) = 0)) (nI i) x (nI 1) (nI (fln (flt (A.2.2.1 s)) (2048 * a + 8 * b + i + 1))) J) (lq (fun z => FI (A.2.2.1 s) (2048 * a + 8 * b + i + 1) z.1 z.2.1 z.2.2.1 ∧ z.2.2.2.1 = nI (i + 1) ∧ SMr J z.2.2.2.2 r) R) := by
  have nx : ∀ t0, t0 = bz (fln (flt (pl (A.2.2.1 s) 1)) (2048 * a + 8 * b + i + 1) = 0) → wp (m_128_j181 1 (nI s) r (Rc t) (Gc L) (nI a) (nI b) (nI i) x (nI 1) (nI (fln (flt (A.2.2.1 s)) (2048 * a + 8 * b + i + 1))) J t0) (lq (fun z => FI (A.2.2.1 s) (2048 * a + 8 * b + i + 1) z.1 z.2.1 z.2.2.1 ∧ z.2.2.2.1 = nI (i + 1) ∧ SMr J z.2.2.2.2 r) R) := fun t0 ht0 => by
    refine wp_mono (k_f181 (R := R) h hs hr ha hb hVa hVb c1 c2 hx) ?_
    rintro (z | z) hz
    · exact ⟨⟨hz.1, hz.2.1, hz.2.2.1.trans ht0⟩, hz.2.2.2⟩
    · exact hz
  have hW : flt (pl (A.2.2.1 s) 1) (2048 * a + 8 * b + i) = ((List.range 8).find? (good (pl (A.2.2.1 s) 1) a b i)).isNone := by
    have wa : pl (A.2.2.1 s) 1 a ≠ NO := fun h9 => hVa (pl_no.1 h9)
    have wb : pl (A.2.2.1 s) 1 b ≠ NO := fun h9 => hVb (pl_no.1 h9)
    rw [flt_at ha hb hi, decide_eq_true wa, decide_eq_true wb, c1, c2]
    rfl
  unfold m_128_j157 m_128_j180
  rw [q_bz]
  by_cases c0 : fln (flt (pl (A.2.2.1 s) 1)) (2048 * a + 8 * b + i) = 0
  · rw [if_pos c0, k_exch hv hV ha hb hi (by decide) hVa hVb c1 c2, o_b1_s]
    by_cases c3 : ((List.range 8).find? (good (pl (A.2.2.1 s) 1) a b i)).isNone = true
    · rw [if_pos (fndE_m.symm.mp c3)]
      refine nx (nI 0) (bz_f (fun h9 => ?_)).symm
      rw [fln_succ, hW, if_pos c3] at h9
      omega
    · rw [if_neg (fun h9 => c3 (fndE_m.mp h9))]
      refine nx (nI 1) (bz_t ?_).symm
      rw [fln_succ, hW, if_neg c3]
      exact c0
  · rw [if_neg c0]
    refine nx (nI 0) (bz_f (fun h9 => ?_)).symm
    rw [fln_succ] at h9
    split at h9 <;> omega
theorem k_f43 {ok n m : Int32} {R : Int32 × Int32 × Int32 × ai_I → Prop} (h : KA J A) (hs : s < 4) (hr : ary L r 1) (hv : ary L v 256) (hvr : ¬ v = r) (hV : HV J v (A.2.2.1 s)) (ha : a < 256) (hb : b < 256) (hi : i < 8) (hVa : A.2.2.1 s a ≠ NO) (hVb : A.2.2.1 s b ≠ NO) (hF : FI (A.2.2.1 s) (2048 * a + 8 * b + i) ok n m) : wp (m_128_b43 1 (nI s) v r (Rc t) (Gc L) (nI a) (nI b) ok n m (nI i) J) (lq (fun z => FI (A.2.2.1 s) (2048 * a + 8 * b + i + 1) z.1 z.2.1 z.2.2.1 ∧ z.2.2.2.1 = nI (i + 1) ∧ SMr J z.2.2.2.2 r) R) := by
  obtain ⟨f1, f2, f3⟩ := hF
  subst f1
  subst f2
  subst f3
  have hr1 := hr.1
  have hv1 := hv.1
  have hle := fln_le (flt (A.2.2.1 s)) (2048 * a + 8 * b + i)
  -- nothing to test
  have no : ¬ (a.testBit i = true ∧ b.testBit i = false) → wp (o_b1 (some (nI i + nI 1)) (fun x9 => some (Sum.inl (nI 1, nI (fln (flt (A.2.2.1 s)) (2048 * a + 8 * b + i)), bz (fln (flt (pl (A.2.2.1 s) 1)) (2048 * a + 8 * b + i) = 0), x9, J)))) (lq (fun z : Int32 × Int32 × Int32 × Int32 × ai_I => FI (A.2.2.1 s) (2048 * a + 8 * b + i + 1) z.1 z.2.1 z.2.2.1 ∧ z.2.2.2.1 = nI (i + 1) ∧ SMr J z.2.2.2.2 r) R) := fun hno => by
    have e : ∀ T, flt T (2048 * a + 8 * b + i) = false := fun T => by
      rw [flt_at ha hb hi]
      cases e1 : a.testBit i with
      | false => rw [Bool.false_and, Bool.false_and, Bool.and_false, Bool.and_false]
      | true =>
        cases e2 : b.testBit i with
        | false => exact absurd ⟨e1, e2⟩ hno
        | true => rw [Bool.not_true, Bool.and_false, Bool.false_and, Bool.and_false, Bool.and_false]
    rw [i_add, o_b1_s, wp_s, lq_l]
    refine ⟨FI_eq (c := 2048 * a + 8 * b + i) ⟨rfl, rfl, rfl⟩ ?_ ?_, rfl, SMr_rf⟩
    · rw [fln_succ, e, if_neg Bool.false_ne_true]
    · rw [fln_succ, e, if_neg Bool.false_ne_true]
  unfold m_128_b43
  rw [q_leF (by omega) hi, k_isB hv hV hb, o_b1_s, q_bz, if_pos hVb, k_has ha hi, o_b1_s, q_bz]
  by_cases c1 : a.testBit i = true
  · rw [if_pos c1, k_has hb hi, o_b1_s, q_bz]
    by_cases c2 : b.testBit i = true
    · rw [if_pos c2]
      exact no (fun h9 => by rw [c2] at h9; cases h9.2)
    · have c2' : b.testBit i = false := Bool.eq_false_iff.2 c2
      rw [if_neg c2, k_exch (w := 0) hv hV ha hb hi (by decide) hVa hVb c1 c2', o_b1_s]
      show wp (if 0 ≤ fndE ((List.range 8).find? (good (A.2.2.1 s) a b i)) then _ else _) _
      have hF : flt (A.2.2.1 s) (2048 * a + 8 * b + i) = ((List.range 8).find? (good (A.2.2.1 s) a b i)).isNone := by
        rw [flt_at ha hb hi, decide_eq_true hVa, decide_eq_true hVb, c1, c2']
        rfl
      by_cases c3 : ((List.range 8).find? (good (A.2.2.1 s) a b i)).isNone = true
      · rw [if_neg (fun h9 => by rw [fndE_n.mp h9] at c3; cases c3), q_10]
        have e1 : fln (flt (A.2.2.1 s)) (2048 * a + 8 * b + i + 1) = fln (flt (A.2.2.1 s)) (2048 * a + 8 * b + i) + 1 := by rw [fln_succ, hF, if_pos c3]
        have yes : ∀ K, SMr J K r → wp (m_128_j147 1 (nI s) v r (Rc t) (Gc L) (nI a) (nI b) (nI (fln (flt (A.2.2.1 s)) (2048 * a + 8 * b + i))) (bz (fln (flt (pl (A.2.2.1 s) 1)) (2048 * a + 8 * b + i) = 0)) (nI i) (fndE ((List.range 8).find? (good (A.2.2.1 s) a b i))) K) (lq (fun z : Int32 × Int32 × Int32 × Int32 × ai_I => FI (A.2.2.1 s) (2048 * a + 8 * b + i + 1) z.1 z.2.1 z.2.2.1 ∧ z.2.2.2.1 = nI (i + 1) ∧ SMr J z.2.2.2.2 r) R) := fun K hK => by
          unfold m_128_j147 m_128_j152
          rw [i_add, o_b1_s, ← e1]
          refine wp_mono (k_f157 (R := R) (KA_smr h hr1 hK) hs hr hv (HV_smr hV hv1 hvr hK) ha hb hi hVa hVb c1 c2' rfl) ?_
          rintro (z | z) hz
          · exact ⟨hz.1, hz.2.1, SMr_tr hK hz.2.2⟩
          · exact hz
        have hfd : fnd (A.2.2.1 s) (fln (flt (A.2.2.1 s)) (2048 * a + 8 * b + i)) (2048 * a + 8 * b + i) := ⟨by omega, hF.trans c3, rfl⟩
        obtain ⟨p1, p2, p3⟩ := flt_abi (a := a) (b := b) (i := i) ha hb hi
        -- what a fault of that number is
        have ft : ∀ (u : Nat) (x : Int32), ((∃ f, fnd (A.2.2.1 s) (fln (flt (A.2.2.1 s)) (2048 * a + 8 * b + i)) f ∧ x = (if u = 0 then nI (f / 2048) else if u = 1 then nI (f / 8 % 256) else nI (f % 8))) ∨ (x = -4 ∧ fln (flt (A.2.2.1 s)) 524288 ≤ fln (flt (A.2.2.1 s)) (2048 * a + 8 * b + i))) → x = (if u = 0 then nI a else if u = 1 then nI b else nI i) := fun u x hx => by
          rcases hx with ⟨f, f1, f2⟩ | ⟨-, f2⟩
          · rw [f2, fnd_one f1 hfd, p1, p2, p3]
          · exact absurd f2 (fun h9 => fnd_not hfd h9)
        by_cases c4 : 3 < fln (flt (A.2.2.1 s)) (2048 * a + 8 * b + i)
        · rw [if_pos (nI_lt c4 (by omega))]
          exact yes J SMr_rf
        · rw [if_neg (nI_nlt (by omega) (by decide)), k_1, o_g_t]
          refine wp_b2 (wp_mono (k_fault (t := t) (L := L) h hs (by omega) (show 0 ≤ 2 by decide)) ?_)
          rintro ⟨x, K⟩ ⟨x1, x2⟩
          dsimp only at x1 x2 ⊢
          have hx := ft 0 x x2
          rw [if_pos rfl] at hx
          rw [if_pos hx]
          refine wp_b2 (wp_mono (k_fault (t := t) (L := L) (KA_sm h x1) hs (by omega) (show 1 ≤ 2 by decide)) ?_)
          rintro ⟨y, M⟩ ⟨y1, y2⟩
          dsimp only at y1 y2 ⊢
          have hy := ft 1 y y2
          rw [if_neg (by decide), if_pos rfl] at hy
          rw [if_pos hy]
          refine wp_b2 (wp_mono (k_fault (t := t) (L := L) (KA_sm h (SM_tr x1 y1)) hs (by omega) (show 2 ≤ 2 by decide)) ?_)
          rintro ⟨z, N⟩ ⟨z1, z2⟩
          dsimp only at z1 z2 ⊢
          have hz := ft 2 z z2
          rw [if_neg (by decide), if_neg (by decide)] at hz
          rw [if_pos hz]
          exact yes N (SMr_sm SMr_rf (SM_tr (SM_tr x1 y1) z1))
      · have c3' : ((List.range 8).find? (good (A.2.2.1 s) a b i)).isNone = false := Bool.eq_false_iff.2 c3
        have e1 : fln (flt (A.2.2.1 s)) (2048 * a + 8 * b + i) = fln (flt (A.2.2.1 s)) (2048 * a + 8 * b + i + 1) := by rw [fln_succ, hF, if_neg c3]
        rw [if_pos (fndE_n.symm.mp c3')]
        rw [e1]
        exact k_f157 (R := R) h hs hr hv hV ha hb hi hVa hVb c1 c2' rfl
  · rw [if_neg c1]
    exact no (fun h9 => c1 h9.1)
theorem fln_pos0 {p : Nat → Bool} {N : Nat} (h : fln p N = 0) : ∀ c, c < N → p c = false := fun c hc => by
  cases e : p c with
  | false => rfl
  | true =>
    have h1 := fln_mono (p := p) (N - (c + 1)) (c + 1) N (by omega)
    rw [fln_succ, if_pos e] at h1
    omega
theorem k_faults (h : KA I A) (hs : s < 4) (hr : ary L r 1) (hv : ary L v 256) (hvr : ¬ v = r) (hV : HV I v (A.2.2.1 s)) : wp (m_128 1 (nI s) v r I (Rc t) (Gc L)) (fun q => q.1 = nI 1 ∧ SMr I q.2 r) := by
  have hr1 := hr.1
  have hv1 := hv.1
  unfold m_128
  refine wp_s1 (wp_mono (wp_lp (Q := fun q : Int32 × Int32 × Int32 × ai_I => FI (A.2.2.1 s) 524288 q.1 q.2.1 q.2.2.1 ∧ SMr I q.2.2.2 r) (fun a z => z.2.2.2.1 = nI a ∧ FI (A.2.2.1 s) (2048 * a) z.1 z.2.1 z.2.2.1 ∧ SMr I z.2.2.2.2 r) 0 256 (by decide) (by decide) ⟨rfl, ⟨rfl, rfl, rfl⟩, SMr_rf⟩ ?_ ?_) ?_)
  · rintro a ⟨ok, n, m, x, J⟩ ha ⟨g1, g2, g3⟩
    dsimp only at g1 g2 g3
    subst g1
    have hJV := HV_smr hV hv1 hvr g3
    unfold m_128_b12
    dsimp only
    rw [q_leF (by omega) ha]
    have fin : ∀ q : Int32 × Int32 × Int32 × ai_I, FI (A.2.2.1 s) (2048 * (a + 1)) q.1 q.2.1 q.2.2.1 ∧ SMr I q.2.2.2 r → wp (m_128_x23_233 (nI a) q.1 q.2.1 q.2.2.1 q.2.2.2) (lq (fun z : Int32 × Int32 × Int32 × Int32 × ai_I => z.2.2.2.1 = nI (a + 1) ∧ FI (A.2.2.1 s) (2048 * (a + 1)) z.1 z.2.1 z.2.2.1 ∧ SMr I z.2.2.2.2 r) (fun q : Int32 × Int32 × Int32 × ai_I => FI (A.2.2.1 s) 524288 q.1 q.2.1 q.2.2.1 ∧ SMr I q.2.2.2 r)) := fun q hq => by
      unfold m_128_x23_233
      rw [i_add, o_b1_s, wp_s, lq_l]
      exact ⟨rfl, hq.1, hq.2⟩
    by_cases cA : A.2.2.1 s a ≠ NO
    · refine wp_s1 (wp_mono (wp_lp (Q := fun q : Int32 × Int32 × Int32 × ai_I => FI (A.2.2.1 s) (2048 * (a + 1)) q.1 q.2.1 q.2.2.1 ∧ SMr I q.2.2.2 r) (fun b z => z.2.2.2.1 = nI b ∧ FI (A.2.2.1 s) (2048 * a + 8 * b) z.1 z.2.1 z.2.2.1 ∧ SMr I z.2.2.2.2 r) 0 256 (by decide) (by decide) ⟨rfl, g2, g3⟩ ?_ ?_) fin)
      · rintro b ⟨ok, n, m, x, K⟩ hb ⟨k1, k2, k3⟩
        dsimp only at k1 k2 k3
        subst k1
        have hKV := HV_smr hV hv1 hvr k3
        unfold m_128_b23
        dsimp only
        rw [q_leF (by omega) hb, k_isB hv hKV ha, o_b1_s, q_bz, if_pos cA]
        have fin2 : ∀ q : Int32 × Int32 × Int32 × ai_I, FI (A.2.2.1 s) (2048 * a + 8 * (b + 1)) q.1 q.2.1 q.2.2.1 ∧ SMr I q.2.2.2 r → wp (m_128_x43_227 (nI b) q.1 q.2.1 q.2.2.1 q.2.2.2) (lq (fun z : Int32 × Int32 × Int32 × Int32 × ai_I => z.2.2.2.1 = nI (b + 1) ∧ FI (A.2.2.1 s) (2048 * a + 8 * (b + 1)) z.1 z.2.1 z.2.2.1 ∧ SMr I z.2.2.2.2 r) (fun q : Int32 × Int32 × Int32 × ai_I => FI (A.2.2.1 s) (2048 * (a + 1)) q.1 q.2.1 q.2.2.1 ∧ SMr I q.2.2.2 r)) := fun q hq => by
          unfold m_128_x43_227
          rw [i_add, o_b1_s, wp_s, lq_l]
          exact ⟨rfl, hq.1, hq.2⟩
        by_cases cB : A.2.2.1 s b ≠ NO
        · refine wp_s1 (wp_mono (wp_lp (Q := fun q : Int32 × Int32 × Int32 × ai_I => FI (A.2.2.1 s) (2048 * a + 8 * (b + 1)) q.1 q.2.1 q.2.2.1 ∧ SMr I q.2.2.2 r) (fun i z => z.2.2.2.1 = nI i ∧ FI (A.2.2.1 s) (2048 * a + 8 * b + i) z.1 z.2.1 z.2.2.1 ∧ SMr I z.2.2.2.2 r) 0 8 (by decide) (by decide) ⟨rfl, k2, k3⟩ ?_ ?_) fin2)
          · rintro i ⟨ok, n, m, x, M⟩ hi ⟨l1, l2, l3⟩
            dsimp only at l1 l2 l3
            subst l1
            refine wp_mono (k_f43 (R := fun q : Int32 × Int32 × Int32 × ai_I => FI (A.2.2.1 s) (2048 * a + 8 * (b + 1)) q.1 q.2.1 q.2.2.1 ∧ SMr I q.2.2.2 r) (KA_smr h hr1 l3) hs hr hv hvr (HV_smr hV hv1 hvr l3) ha hb hi cA cB l2) ?_
            rintro (z | z) hz
            · exact ⟨hz.2.1, hz.1, SMr_tr l3 hz.2.2⟩
            · exact hz
          · rintro ⟨ok, n, m, x, M⟩ ⟨l1, l2, l3⟩
            dsimp only at l1 l2 l3
            subst l1
            unfold m_128_b43
            dsimp only
            rw [q_leT (by decide) (Nat.le_refl _), wp_s, lq_r]
            exact ⟨l2, l3⟩
        · have cB' := Decidable.of_not_not cB
          rw [lp_o1 (r := (ok, n, m, K)) (by
            unfold m_128_b43
            dsimp only
            rw [q_leF (by decide) (by decide), k_isB hv hKV hb, o_b1_s, q_bz, if_neg cB]), o_s1_s]
          refine fin2 _ ⟨FI_eq k2 (flt_noB ha hb cB') (flt_noB ha hb (pl_no.2 cB')), k3⟩
      · rintro ⟨ok, n, m, x, K⟩ ⟨k1, k2, k3⟩
        dsimp only at k1 k2 k3
        subst k1
        unfold m_128_b23
        dsimp only
        rw [q_leT (by decide) (Nat.le_refl _), wp_s, lq_r]
        exact ⟨k2, k3⟩
    · have cA' := Decidable.of_not_not cA
      rw [lp_o1 (r := (ok, n, m, J)) (by
        unfold m_128_b23
        dsimp only
        rw [q_leF (by decide) (by decide), k_isB hv hJV ha, o_b1_s, q_bz, if_neg cA]), o_s1_s]
      exact fin _ ⟨FI_eq g2 (flt_noA cA') (flt_noA (pl_no.2 cA')), g3⟩
  · rintro ⟨ok, n, m, x, J⟩ ⟨g1, g2, g3⟩
    dsimp only at g1 g2 g3
    subst g1
    unfold m_128_b12
    dsimp only
    rw [q_leT (by decide) (Nat.le_refl _), wp_s, lq_r]
    exact ⟨g2, g3⟩
  · rintro ⟨ok, n, m, J⟩ ⟨⟨g1, g2, g3⟩, g4⟩
    dsimp only at g1 g2 g3 g4 ⊢
    rw [g1, g2, g3]
    have hle := fln_le (flt (A.2.2.1 s)) 524288
    have hJ := KA_smr h hr1 g4
    unfold m_128_x12_239
    rw [q_10, k_1, o_g_t]
    refine wp_b2 (wp_mono (k_sh12 (t := t) (L := L) hJ hs) ?_)
    rintro ⟨x, K⟩ ⟨x1, x2⟩
    dsimp only at x1 x2 ⊢
    rw [if_pos x2]
    refine wp_b2 (wp_mono (k_sh7 (t := t) (L := L) (KA_sm hJ x1) hs) ?_)
    rintro ⟨y, M⟩ ⟨y1, y2⟩
    dsimp only at y1 y2 ⊢
    rw [y2, q_e0 (by omega)]
    have hM := KA_sm hJ (SM_tr x1 y1)
    have fin : ∀ z, z = lw1 (A.2.2.1 s) → wp (m_128_j273 1 (nI s) (Rc t) (Gc L) (nI (fln (flt (A.2.2.1 s)) 524288)) (bz (fln (flt (pl (A.2.2.1 s) 1)) 524288 = 0)) (lw1 (A.2.2.1 s)) M z) (fun q => q.1 = nI 1 ∧ SMr I q.2 r) := by
      intro z hz
      rw [hz]
      unfold m_128_j273
      rw [if_pos rfl]
      refine wp_b2 (wp_mono (k_sh8 (t := t) (L := L) hM hs) ?_)
      rintro ⟨z, N⟩ ⟨z1, z2⟩
      dsimp only at z1 z2 ⊢
      rw [q_bz]
      have fin3 : ∀ u, u = z → wp (m_128_j293 1 (nI s) (Rc t) (Gc L) (nI (fln (flt (A.2.2.1 s)) 524288)) z N u) (fun q => q.1 = nI 1 ∧ SMr I q.2 r) := by
        rintro u rfl
        unfold m_128_j293
        rw [if_pos rfl]
        refine wp_b2 (wp_mono (k_fault (t := t) (L := L) (KA_sm hM z1) hs (show fln (flt (A.2.2.1 s)) 524288 < 2147483648 by omega) (show 0 ≤ 2 by decide)) ?_)
        rintro ⟨w, O⟩ ⟨w1, w2⟩
        dsimp only at w1 w2 ⊢
        rcases w2 with ⟨f, f1, -⟩ | ⟨f1, -⟩
        · exact absurd (Nat.le_refl _) (fun h9 => fnd_not f1 h9)
        · rw [if_pos f1, wp_s]
          exact ⟨rfl, SMr_sm g4 (SM_tr (SM_tr (SM_tr x1 y1) z1) w1)⟩
      by_cases c : fln (flt (pl (A.2.2.1 s) 1)) 524288 = 0
      · rw [if_pos c]
        exact fin3 _ (z2.trans (bz_t c)).symm
      · rw [if_neg c]
        exact fin3 _ (z2.trans (bz_f c)).symm
    by_cases c : fln (flt (A.2.2.1 s)) 524288 = 0
    · rw [if_pos c]
      exact fin _ (bz_t c).symm
    · rw [if_neg c]
      exact fin _ (bz_f c).symm
end
