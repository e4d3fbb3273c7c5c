/-! The law's test of greedy ways: whether the greatest are a matroid's; the whole. -/
theorem irow_0 {V S : Nat → Int32} {g : Int32} {x : Nat} : irow V S g x = 0 ↔ irow V S g x ≠ NO := by
  unfold irow
  by_cases c : inq V S g x = true
  · rw [if_pos c]
    exact ⟨fun _ => by decide, fun _ => rfl⟩
  · rw [if_neg c]
    exact ⟨fun h => absurd h (by decide), fun h => absurd rfl h⟩
theorem pl_irow {V S : Nat → Int32} {g : Int32} : pl (irow V S g) 1 = irow V S g := by
  funext x
  show wrow (irow V S g) 1 x = _
  unfold wrow
  by_cases c : irow V S g x ≠ NO
  · rw [if_pos c, if_neg (by decide)]
    exact (irow_0.2 c).symm
  · rw [if_neg c]
    exact (Decidable.of_not_not c).symm
section
variable {I J : ai_I} {t s v p n : Nat} {L : ai_G} {A : SV} {V S : Nat → Int32} {g : Int32}
theorem bz_mono {T : Nat → Int32} {c : Nat} (h : ¬ fln (flt T) c = 0) : bz (fln (flt T) (c + 1) = 0) = nI 0 := bz_f (fun h9 => by
  rw [fln_succ] at h9
  split at h9 <;> omega)
theorem k_h483 {a b i : Nat} {R : Int32 → Prop} (hn : ary L n 256) (hV : HV J n (irow V S g)) (ha : a < 256) (hb : b < 256) (hi : i < 8) (hWa : irow V S g a ≠ NO) (hWb : irow V S g b ≠ NO) : wp (m_129_b483 (Gc L) n J (nI a) (nI b) (bz (fln (flt (irow V S g)) (2048 * a + 8 * b + i) = 0)) (nI i)) (lq (fun z => z.1 = bz (fln (flt (irow V S g)) (2048 * a + 8 * b + i + 1) = 0) ∧ z.2 = nI (i + 1)) R) := by
  unfold m_129_b483
  rw [q_leF (by omega) hi, ay_in hn hb (by decide), o_g_t, i_cl (by omega), hV b hb, if_pos (irow_0.2 hWb), q_bz]
  by_cases c0 : fln (flt (irow V S g)) (2048 * a + 8 * b + i) = 0
  · rw [if_pos c0, k_has ha hi, o_b1_s, q_bz]
    have hF := flt_at (T := irow V S g) ha hb hi
    rw [decide_eq_true hWa, decide_eq_true hWb] at hF
    have yes : flt (irow V S g) (2048 * a + 8 * b + i) = false → nI 1 = bz (fln (flt (irow V S g)) (2048 * a + 8 * b + i + 1) = 0) := fun h => (bz_t (by rw [fln_succ, h, if_neg Bool.false_ne_true]; exact c0)).symm
    by_cases c1 : a.testBit i = true
    · rw [if_pos c1, k_has hb hi, o_b1_s, q_bz]
      by_cases c2 : b.testBit i = true
      · rw [if_pos c2, i_add, o_b1_s, wp_s, lq_l]
        refine ⟨yes ?_, rfl⟩
        rw [hF, c1, c2]
        rfl
      · have c2' := not_tb c2
        rw [if_neg c2, k_exch (w := 1) hn hV ha hb hi (by decide) hWa hWb c1 c2', pl_irow, o_b1_s]
        rw [c1, c2'] at hF
        by_cases c3 : ((List.range 8).find? (good (irow V S g) a b i)).isNone = true
        · rw [if_pos (fndE_m.symm.mp c3), i_add, o_b1_s, wp_s, lq_l]
          refine ⟨(bz_f ?_).symm, rfl⟩
          rw [fln_succ, hF, c3, if_pos (by rfl)]
          omega
        · rw [if_neg (fun h9 => c3 (fndE_m.mp h9)), i_add, o_b1_s, wp_s, lq_l]
          refine ⟨yes ?_, rfl⟩
          rw [hF, Bool.eq_false_iff.2 c3]
          rfl
    · rw [if_neg c1, i_add, o_b1_s, wp_s, lq_l]
      refine ⟨yes ?_, rfl⟩
      rw [hF, not_tb c1]
      rfl
  · rw [if_neg c0, i_add, o_b1_s, wp_s, lq_l]
    exact ⟨(bz_mono c0).symm, rfl⟩
theorem k_holds (hn : ary L n 256) (hV : HV J n (irow V S g)) : wp (lp (fun z => m_129_b453 (Gc L) n J z.1 z.2) o_N (nI 1, nI 0)) (fun q => q = lw1 (irow V S g)) := by
  refine wp_lp (fun a z => z.1 = bz (fln (flt (irow V S g)) (2048 * a) = 0) ∧ z.2 = nI a) 0 256 (by decide) (by decide) ⟨rfl, rfl⟩ ?_ ?_
  · rintro a ⟨x, y⟩ ha ⟨g1, g2⟩
    dsimp only at g1 g2
    rw [g1, g2]
    unfold m_129_b453
    rw [q_leF (by omega) ha]
    have fin : ∀ q, q = bz (fln (flt (irow V S g)) (2048 * (a + 1)) = 0) → wp (m_129_x464_557 (nI a) q) (lq (fun z : Int32 × Int32 => z.1 = bz (fln (flt (irow V S g)) (2048 * (a + 1)) = 0) ∧ z.2 = nI (a + 1)) (fun q => q = lw1 (irow V S g))) := fun q hq => by
      unfold m_129_x464_557
      rw [i_add, o_b1_s, wp_s, lq_l]
      exact ⟨hq, rfl⟩
    by_cases cA : irow V S g a ≠ NO
    · refine wp_s1 (wp_mono (wp_lp (Q := fun q => q = bz (fln (flt (irow V S g)) (2048 * (a + 1)) = 0)) (fun b z => z.1 = bz (fln (flt (irow V S g)) (2048 * a + 8 * b) = 0) ∧ z.2 = nI b) 0 256 (by decide) (by decide) ⟨rfl, rfl⟩ ?_ ?_) fin)
      · rintro b ⟨x, y⟩ hb ⟨k1, k2⟩
        dsimp only at k1 k2
        rw [k1, k2]
        unfold m_129_b464
        rw [q_leF (by omega) hb, ay_in hn ha (by decide), o_g_t, i_cl (by omega), hV a ha, if_pos (irow_0.2 cA)]
        have fin2 : ∀ q, q = bz (fln (flt (irow V S g)) (2048 * a + 8 * (b + 1)) = 0) → wp (m_129_x483_551 (nI b) q) (lq (fun z : Int32 × Int32 => z.1 = bz (fln (flt (irow V S g)) (2048 * a + 8 * (b + 1)) = 0) ∧ z.2 = nI (b + 1)) (fun q => q = bz (fln (flt (irow V S g)) (2048 * (a + 1)) = 0))) := fun q hq => by
          unfold m_129_x483_551
          rw [i_add, o_b1_s, wp_s, lq_l]
          exact ⟨hq, rfl⟩
        by_cases cB : irow V S g b ≠ NO
        · refine wp_s1 (wp_mono (wp_lp (Q := fun q => q = bz (fln (flt (irow V S g)) (2048 * a + 8 * (b + 1)) = 0)) (fun i z => z.1 = bz (fln (flt (irow V S g)) (2048 * a + 8 * b + i) = 0) ∧ z.2 = nI i) 0 8 (by decide) (by decide) ⟨rfl, rfl⟩ ?_ ?_) fin2)
          · rintro i ⟨x, y⟩ hi ⟨l1, l2⟩
            dsimp only at l1 l2
            rw [l1, l2]
            exact k_h483 hn hV ha hb hi cA cB
          · rintro ⟨x, y⟩ ⟨l1, l2⟩
            dsimp only at l1 l2
            rw [l1, l2]
            unfold m_129_b483
            rw [q_leT (by decide) (Nat.le_refl _), wp_s, lq_r]
            rfl
        · have cB' := Decidable.of_not_not cB
          rw [lp_o1 (r := bz (fln (flt (irow V S g)) (2048 * a + 8 * b) = 0)) (by
            unfold m_129_b483
            dsimp only
            rw [q_leF (by decide) (by decide), ay_in hn hb (by decide), o_g_t, i_cl (by omega), hV b hb, if_neg (fun h9 => cB (irow_0.1 h9))]), o_s1_s]
          refine fin2 _ ?_
          rw [flt_noB ha hb cB']
      · rintro ⟨x, y⟩ ⟨k1, k2⟩
        dsimp only at k1 k2
        rw [k1, k2]
        unfold m_129_b464
        rw [q_leT (by decide) (Nat.le_refl _), wp_s, lq_r, show 2048 * a + 8 * 256 = 2048 * (a + 1) from by omega]
    · have cA' := Decidable.of_not_not cA
      rw [lp_o1 (r := bz (fln (flt (irow V S g)) (2048 * a) = 0)) (by
        unfold m_129_b464
        dsimp only
        rw [q_leF (by decide) (by decide), ay_in hn ha (by decide), o_g_t, i_cl (by omega), hV a ha, if_neg (fun h9 => cA (irow_0.1 h9))]), o_s1_s]
      refine fin _ ?_
      rw [flt_noA cA']
  · rintro ⟨x, y⟩ ⟨g1, g2⟩
    dsimp only at g1 g2
    rw [g1, g2]
    unfold m_129_b453
    rw [q_leT (by decide) (Nat.le_refl _), wp_s, lq_r]
    unfold lw1
    rw [show (2048 * 256 : Nat) = 524288 from by decide]
/-- the law holds, or t0 is 0 -/
def LT (V : Nat → Int32) (t0 : Int32) : Prop := (t0 = 0 ∧ ¬ fln (flt V) 524288 = 0) ∨ (¬ t0 = 0 ∧ fln (flt V) 524288 = 0)
theorem k_gend {t0 m w : Int32} (h : KA J A) (hs : s < 4) (hT : LT (A.2.2.1 s) t0) (hm : m = nI (fln (cl (arv (A.2.2.1 s) (smA A s) (gsA A s))) 256)) (hw : w = nI (fln (inq (A.2.2.1 s) (smA A s) (gsA A s)) 256)) (hP : ppb A.2.2.2) : wp (m_129_x453_563 1 (nI s) (Rc t) (gsA A s) t0 (Gc L) (nI 1) m w J (lw1 (irow (A.2.2.1 s) (smA A s) (gsA A s)))) (fun q => q.1 = nI 1 ∧ q.2.2 = Gc L ∧ SM J q.2.1) := by
  have hW := (KA_s h hs).1
  have hlw : ¬ t0 = 0 → lw1 (irow (A.2.2.1 s) (smA A s) (gsA A s)) = nI 1 := fun h9 => by
    rcases hT with ⟨h8, -⟩ | ⟨-, h8⟩
    · exact absurd h8 h9
    · exact bz_t (law_ini (LX_of hW hP h8))
  have hb : ¬ lw1 (irow (A.2.2.1 s) (smA A s) (gsA A s)) = 0 → lw1 (irow (A.2.2.1 s) (smA A s) (gsA A s)) = nI 1 := fun h9 => by
    unfold lw1 bz at h9 ⊢
    split
    · rfl
    · rename_i h8
      rw [if_neg h8] at h9
      exact absurd rfl h9
  have hle := fln_le (inq (A.2.2.1 s) (smA A s) (gsA A s)) 256
  unfold m_129_x453_563
  rw [q_10, k_1, o_g_t]
  refine wp_b2 (wp_mono (k_arrive (t := t) (L := L) h hs) ?_)
  rintro ⟨x, K⟩ ⟨x1, x2⟩
  dsimp only at x1 x2 ⊢
  rw [if_pos (x2.trans hm.symm)]
  refine wp_b2 (wp_mono (k_ini0 (t := t) (L := L) (KA_sm h x1) hs) ?_)
  rintro ⟨y, K2⟩ ⟨y1, y2⟩
  dsimp only at y1 y2 ⊢
  rw [if_pos (y2.trans hw.symm)]
  have h2 := SM_tr x1 y1
  refine wp_b2 (wp_mono (k_ini1 (t := t) (L := L) (KA_sm h h2) hs) ?_)
  rintro ⟨z, K3⟩ ⟨z1, z2⟩
  dsimp only at z1 z2 ⊢
  rw [if_pos z2]
  have h3 := SM_tr h2 z1
  refine wp_b2 (wp_mono (k_ini2 (t := t) (L := L) (KA_sm h h3) hs) ?_)
  rintro ⟨u, K4⟩ ⟨u1, u2⟩
  dsimp only at u1 u2 ⊢
  have h4 := SM_tr h3 u1
  have hu : u = lw1 (irow (A.2.2.1 s) (smA A s) (gsA A s)) := u2
  generalize hlx : lw1 (irow (A.2.2.1 s) (smA A s) (gsA A s)) = lx at *
  have fin : wp (m_129_j629 1 (nI s) (Rc t) (Gc L) w K4) (fun q => q.1 = nI 1 ∧ q.2.2 = Gc L ∧ SM J q.2.1) := by
    unfold m_129_j629
    rw [hw, i_add]
    refine wp_b2 (wp_mono (k_iniw (t := t) (L := L) (KA_sm h h4) hs (by omega)) ?_)
    rintro ⟨o, K5⟩ ⟨o1, o2⟩
    dsimp only at o1 o2 ⊢
    rcases o2 with ⟨b, b1, b2, b3, -⟩ | ⟨o2, -⟩
    · exact absurd (Nat.le_refl _) (fun h9 => inq_not b1 b2 b3 h9)
    · rw [if_pos o2, wp_s]
      exact ⟨rfl, rfl, SM_tr h4 o1⟩
  have fin2 : ∀ e, u = e → wp (m_129_j616 1 (nI s) (Rc t) t0 (Gc L) w lx u K4 e) (fun q => q.1 = nI 1 ∧ q.2.2 = Gc L ∧ SM J q.2.1) := fun e he => by
    unfold m_129_j616
    rw [if_pos he]
    by_cases c : t0 = 0
    · rw [if_pos c]
      exact fin
    · rw [if_neg c, hlw c, if_neg (by decide)]
      exact fin
  by_cases c : lx = 0
  · rw [if_pos c]
    exact fin2 _ (hu.trans c)
  · rw [if_neg c]
    exact fin2 _ (hu.trans (hb c))
theorem k_g78 {t0 : Int32} (h : KA I A) (hs : s < 4) (hv : ary L v 256) (hp : ary L p 8) (hV : HV I v (A.2.2.1 s)) (hP : ∀ e, e < 8 → I p e = A.2.2.2 e) (hz : 74 ≤ L.2.2) (hz9 : L.2.2 < 900) (hT : LT (A.2.2.1 s) t0) : wp (m_129_j78 1 (nI s) v p (Rc t) (Gc L) (gsA A s) I t0) (fun q => q.1 = nI 1 ∧ q.2.2 = Gc (nw L 256) ∧ SMr I q.2.1 (L.2.2 + 1)) := by
  have hW := (KA_s h hs).1
  have hpp : ppb A.2.2.2 := fun e he => (KA_p h e he).2
  have hv1 := hv.1
  have hv2 := hv.2.1
  have hp1 := hp.1
  have hp2 := hp.2.1
  have ht : t0 = 0 ∨ ∀ b, b ∈ BL (A.2.2.1 s) → NX (A.2.2.1 s) (smA A s) b none → smA A s b = gsA A s := by
    rcases hT with ⟨h8, -⟩ | ⟨-, h8⟩
    · exact Or.inl h8
    · exact Or.inr (fun b hb hn => loc_gs hW (LX_of hW hpp h8) (k_S h hs) hb hn)
  unfold m_129_j78
  refine al_n hz hz9 ?_
  have hn := nw_new (n := 256) hz
  have hvn := nw_old (n := 256) hv
  have hpn := nw_old (n := 256) hp
  have hS0 : SMr I (va_up I (L.2.2 + 1) (fun _ => 0)) (L.2.2 + 1) := fun c _ hc => up_ne hc
  refine wp_s1 (wp_mono (wp_lp (Q := fun q : Int32 × Int32 × Int32 × ai_I => GI I A s (L.2.2 + 1) 256 q.1 q.2.1 q.2.2.1 (nI 256) q.2.2.2) (fun k z => GI I A s (L.2.2 + 1) k z.1 z.2.1 z.2.2.1 z.2.2.2.1 z.2.2.2.2) 0 256 (by decide) (by decide) ⟨rfl, rfl, rfl, rfl, fun x hx => absurd hx (Nat.not_lt_zero _), hS0⟩ ?_ ?_) ?_)
  · rintro k ⟨ok, m, w, x, J⟩ hk hG
    dsimp only at hG
    have hx : x = nI k := hG.2.2.2.1
    subst hx
    exact k_g90 (R := fun q : Int32 × Int32 × Int32 × ai_I => GI I A s (L.2.2 + 1) 256 q.1 q.2.1 q.2.2.1 (nI 256) q.2.2.2) h hs hvn hpn hn (by omega) (by omega) hV hP hk ht hG
  · rintro ⟨ok, m, w, x, J⟩ hG
    dsimp only at hG
    have hx : x = nI 256 := hG.2.2.2.1
    subst hx
    unfold m_129_b90
    dsimp only
    rw [q_leT (by decide) (Nat.le_refl _), wp_s, lq_r]
    exact hG
  · rintro ⟨ok, m, w, J⟩ ⟨g1, g2, g3, -, g5, g6⟩
    dsimp only at g1 g2 g3 g5 g6 ⊢
    unfold m_129_x90_447
    have hJn : HV J (L.2.2 + 1) (irow (A.2.2.1 s) (smA A s) (gsA A s)) := fun x hx => g5 x hx
    refine wp_s1 (wp_mono (k_holds hn hJn) ?_)
    intro q hq
    rw [hq, g1]
    refine wp_mono (k_gend (t := t) (L := nw L 256) (KA_smr h (by omega) g6) hs hT g2 g3 hpp) ?_
    rintro q ⟨q1, q2, q3⟩
    exact ⟨q1, q2, SMr_sm g6 q3⟩
theorem k_greedys (h : KA I A) (hs : s < 4) (hv : ary L v 256) (hp : ary L p 8) (hV : HV I v (A.2.2.1 s)) (hP : ∀ e, e < 8 → I p e = A.2.2.2 e) (hz : 74 ≤ L.2.2) (hz9 : L.2.2 < 900) : wp (m_129 1 (nI s) v p I (Rc t) (Gc L)) (fun q => q.1 = nI 1 ∧ q.2.2 = Gc (nw L 256) ∧ SMr I q.2.1 (L.2.2 + 1)) := by
  have hW := (KA_s h hs).1
  have hpp : ppb A.2.2.2 := fun e he => (KA_p h e he).2
  have hl0 := BL_pos hW
  unfold m_129
  refine wp_s1 (wp_mono (wp_lp (Q := fun q => q = gsA A s) (fun k z => z.2 = nI k ∧ ((Bk (A.2.2.1 s) k = [] ∧ z.1 = -99999999) ∨ ∃ b, b ∈ Bk (A.2.2.1 s) k ∧ z.1 = smA A s b ∧ ∀ c ∈ Bk (A.2.2.1 s) k, smA A s c ≤ smA A s b)) 0 256 (by decide) (by decide) ⟨rfl, Or.inl ⟨rfl, rfl⟩⟩ ?_ ?_) ?_)
  · rintro k ⟨x, y⟩ hk ⟨g1, g2⟩
    dsimp only at g1 g2
    subst g1
    unfold m_129_b10
    dsimp only
    rw [q_leF (by omega) hk, k_isB hv hV hk, o_b1_s, q_bz]
    by_cases c1 : A.2.2.1 s k ≠ NO
    · rw [if_pos c1]
      refine k_sum hv hp hV hP hk ?_
      rw [i_cl (by omega), hV k hk]
      show wp (o_b1 (some (if x < smA A s k then smA A s k else x)) (fun r_40 => o_b1 (some (nI k + nI 1)) (fun x6_50 => some (Sum.inl (r_40, x6_50))))) _
      have hz := smv_z hW hpp hk c1
      have hm : ∀ c, c ∈ Bk (A.2.2.1 s) (k + 1) → c ∈ Bk (A.2.2.1 s) k ∨ c = k := fun c hc => by
        rw [Bk_t c1, List.mem_append, List.mem_singleton] at hc
        exact hc
      have hk1 : k ∈ Bk (A.2.2.1 s) (k + 1) := by
        rw [Bk_t c1, List.mem_append, List.mem_singleton]
        exact Or.inr rfl
      rw [o_b1_s, i_add, o_b1_s, wp_s, lq_l]
      refine ⟨rfl, Or.inr ?_⟩
      dsimp only
      rcases g2 with ⟨h1, h2⟩ | ⟨b, h1, h2, h3⟩
      · have hn := big_no (x := smA A s k) (show -2000000 ≤ (smv (A.2.2.1 s) A.2.2.2 k).toInt by omega)
        rw [h2, if_pos (Int32.not_le.1 hn)]
        refine ⟨k, hk1, rfl, fun c hc => ?_⟩
        rcases hm c hc with h8 | h8
        · rw [h1] at h8
          exact absurd h8 List.not_mem_nil
        · rw [h8]
          exact Int32.le_refl _
      · rw [h2]
        by_cases c : smA A s b < smA A s k
        · rw [if_pos c]
          refine ⟨k, hk1, rfl, fun x hx => ?_⟩
          rcases hm x hx with h8 | h8
          · exact Int32.le_of_lt (Int32.lt_of_le_of_lt (h3 x h8) c)
          · rw [h8]
            exact Int32.le_refl _
        · rw [if_neg c]
          refine ⟨b, by rw [Bk_t c1, List.mem_append]; exact Or.inl h1, rfl, fun x hx => ?_⟩
          rcases hm x hx with h8 | h8
          · exact h3 x h8
          · rw [h8]
            exact Int32.not_lt.1 c
    · rw [if_neg c1, i_add, o_b1_s, wp_s, lq_l, Bk_f (Decidable.of_not_not c1)]
      exact ⟨rfl, g2⟩
  · rintro ⟨x, y⟩ ⟨g1, g2⟩
    dsimp only at g1 g2
    subst g1
    unfold m_129_b10
    dsimp only
    rw [q_leT (by decide) (Nat.le_refl _), wp_s, lq_r]
    rcases g2 with ⟨h1, -⟩ | ⟨b, h1, h2, h3⟩
    · have h1 : BL (A.2.2.1 s) = [] := h1
      rw [h1] at hl0
      exact absurd hl0 (Nat.lt_irrefl _)
    · obtain ⟨c, c1, c2⟩ := gs_in hW (k_S h hs)
      rw [h2]
      refine Int32.le_antisymm (gs_ub (S := smA A s) h1) ?_
      show gs (smv (A.2.2.1 s) A.2.2.2) (BL (A.2.2.1 s)) ≤ _
      rw [c2]
      exact h3 c c1
  · intro q hq
    rw [hq]
    unfold m_129_x10_56
    rw [k_1, o_g_t]
    refine wp_b2 (wp_mono (k_sh7 (t := t) (L := L) h hs) ?_)
    rintro ⟨x, K⟩ ⟨x1, x2⟩
    dsimp only at x1 x2 ⊢
    have hK := KA_sm h x1
    have hKV : HV K v (A.2.2.1 s) := HV_of hV (x1 v (Or.inr hv.1))
    have hKP : ∀ e, e < 8 → K p e = A.2.2.2 e := fun e he => by
      rw [x1 p (Or.inr hp.1)]
      exact hP e he
    have fin : ∀ t0, LT (A.2.2.1 s) t0 → wp (m_129_j78 1 (nI s) v p (Rc t) (Gc L) (gsA A s) K t0) (fun q => q.1 = nI 1 ∧ q.2.2 = Gc (nw L 256) ∧ SMr I q.2.1 (L.2.2 + 1)) := fun t0 ht0 => by
      refine wp_mono (k_g78 (t := t) hK hs hv hp hKV hKP hz hz9 ht0) ?_
      rintro q ⟨q1, q2, q3⟩
      exact ⟨q1, q2, SMr_tr (SMr_sm SMr_rf x1) q3⟩
    rw [x2]
    unfold lw1
    by_cases c : fln (flt (A.2.2.1 s)) 524288 = 0
    · rw [bz_t c, if_pos rfl]
      exact fin _ (Or.inr ⟨by decide, c⟩)
    · rw [bz_f c, if_neg (by decide)]
      exact fin _ (Or.inl ⟨rfl, c⟩)
end
