/-! The law's test of greedy ways. -/
section
variable {I J : ai_I} {t s v p n : Nat} {L : ai_G} {A : SV}
/-- the greatest sum -/
abbrev gsA (A : SV) (s : Nat) : Int32 := gs (smv (A.2.2.1 s) A.2.2.2) (BL (A.2.2.1 s))
abbrev smA (A : SV) (s : Nat) : Nat → Int32 := smv (A.2.2.1 s) A.2.2.2
theorem k_g181 {a m : Nat} {t0 y : Int32} {R : Int32 × Int32 × Int32 × ai_I → Prop} (h : KA J A) (hs : s < 4) (hv : ary L v 256) (hp : ary L p 8) (hV : HV J v (A.2.2.1 s)) (hP : ∀ e, e < 8 → J p e = A.2.2.2 e) (ha : a ∈ BL (A.2.2.1 s)) (hm : m = fln (cl (arv (A.2.2.1 s) (smA A s) (gsA A s))) a) (ht : t0 = 0 ∨ ∀ b, b ∈ BL (A.2.2.1 s) → NX (A.2.2.1 s) (smA A s) b none → smA A s b = gsA A s) : wp (m_129_j181 1 (nI s) v p (Rc t) (gsA A s) t0 (Gc L) (nI m) (nI a) (nI 1) y J) (lq (fun z => z.1 = nI 1 ∧ z.2.1 = nI (fln (cl (arv (A.2.2.1 s) (smA A s) (gsA A s))) (a + 1)) ∧ z.2.2.1 = y ∧ z.2.2.2.1 = nI (a + 1) ∧ SM J z.2.2.2.2) R) := by
  have hW := (KA_s h hs).1
  obtain ⟨-, -, -, g, b, hg, hb, hg2, -⟩ := k_greedy (t := t) (L := L) (w := 0) h hs ha (by decide)
  have hb2 := BL_mem.1 hb
  have ha2 := BL_mem.1 ha
  unfold m_129_j181
  refine wp_s1 (wp_mono (k_walk hW hv hp hV hP ha hg hg2) ?_)
  rintro q rfl
  unfold m_129_x192_325
  dsimp only
  refine k_sum hv hp hV hP hb2.1 ?_
  rw [i_cl (by omega), hV b hb2.1, o_b1_s, q_10, k_1, o_g_t]
  show wp (o_b2 (m_105 1 (nI s) (nI a) (nI 0) J (Rc t) (Gc L)) (fun r_348 I_348 => if r_348 = nI b then (o_b2 (m_105 1 (nI s) (nI a) (nI 1) I_348 (Rc t) (Gc L)) (fun r_361 I_361 => if r_361 = smA A s b then (o_b2 (m_105 1 (nI s) (nI a) (nI 2) I_361 (Rc t) (Gc L)) (fun r_374 I_374 => if r_374 = nI g then (o_b2 (m_105 1 (nI s) (nI a) (nI 3) I_374 (Rc t) (Gc L)) (fun r_387 I_387 => if smA A s b = gsA A s then (m_129_j402 (gsA A s) t0 (nI m) (nI a) y (smA A s b) r_387 I_387 (nI 1)) else (m_129_j402 (gsA A s) t0 (nI m) (nI a) y (smA A s b) r_387 I_387 (nI 0)))) else (m_129_j421 (gsA A s) (nI m) (nI a) y (smA A s b) I_374))) else (m_129_j421 (gsA A s) (nI m) (nI a) y (smA A s b) I_361))) else (m_129_j421 (gsA A s) (nI m) (nI a) y (smA A s b) I_348))) _
  refine wp_b2 (wp_mono (k_greedy (t := t) (L := L) (w := 0) h hs ha (by decide)) ?_)
  rintro ⟨x, K⟩ ⟨x1, g', b', hg', -, -, x2⟩
  dsimp only at x1 x2 ⊢
  obtain ⟨rfl, rfl⟩ := grd_one _ _ _ _ _ hg hg'
  rw [if_pos rfl] at x2
  rw [if_pos x2]
  refine wp_b2 (wp_mono (k_greedy (t := t) (L := L) (w := 1) (KA_sm h x1) hs ha (by decide)) ?_)
  rintro ⟨x, K2⟩ ⟨y1, g', b', hg', -, -, y2⟩
  dsimp only at y1 y2 ⊢
  obtain ⟨rfl, rfl⟩ := grd_one _ _ _ _ _ hg hg'
  rw [if_neg (by decide), if_pos rfl] at y2
  rw [if_pos y2]
  refine wp_b2 (wp_mono (k_greedy (t := t) (L := L) (w := 2) (KA_sm h (SM_tr x1 y1)) hs ha (by decide)) ?_)
  rintro ⟨x, K3⟩ ⟨z1, g', b', hg', -, -, z2⟩
  dsimp only at z1 z2 ⊢
  obtain ⟨rfl, rfl⟩ := grd_one _ _ _ _ _ hg hg'
  rw [if_neg (by decide), if_neg (by decide), if_pos rfl] at z2
  rw [if_pos z2]
  refine wp_b2 (wp_mono (k_greedy (t := t) (L := L) (w := 3) (KA_sm h (SM_tr (SM_tr x1 y1) z1)) hs ha (by decide)) ?_)
  rintro ⟨x, K4⟩ ⟨w1, g', b', hg', -, -, w2⟩
  dsimp only at w1 w2 ⊢
  obtain ⟨rfl, rfl⟩ := grd_one _ _ _ _ _ hg hg'
  rw [if_neg (by decide), if_neg (by decide), if_neg (by decide)] at w2
  have hS : SM J K4 := SM_tr (SM_tr (SM_tr x1 y1) z1) w1
  -- the tally
  have fin : wp (m_129_j422 (gsA A s) (nI m) (nI a) y (smA A s b) (nI 1) K4) (lq (fun z => z.1 = nI 1 ∧ z.2.1 = nI (fln (cl (arv (A.2.2.1 s) (smA A s) (gsA A s))) (a + 1)) ∧ z.2.2.1 = y ∧ z.2.2.2.1 = nI (a + 1) ∧ SM J z.2.2.2.2) R) := by
    unfold m_129_j422
    by_cases e : smA A s b = gsA A s
    · rw [if_pos e, i_add, o_b1_s, i_add, o_b1_s, wp_s, lq_l]
      refine ⟨rfl, ?_, rfl, rfl, hS⟩
      rw [fln_t ⟨ha, g, b, hg, e⟩, hm]
    · rw [if_neg e, i_add, o_b1_s, i_add, o_b1_s, wp_s, lq_l]
      refine ⟨rfl, ?_, rfl, rfl, hS⟩
      rw [fln_f (fun h9 => by
        obtain ⟨g2, b2, hg2, e2⟩ := h9.2
        rw [(grd_one _ _ _ _ _ hg hg2).2] at e
        exact e e2), hm]
      rfl
  have fin2 : ∀ u, x = u → wp (m_129_j402 (gsA A s) t0 (nI m) (nI a) y (smA A s b) x K4 u) (lq (fun z => z.1 = nI 1 ∧ z.2.1 = nI (fln (cl (arv (A.2.2.1 s) (smA A s) (gsA A s))) (a + 1)) ∧ z.2.2.1 = y ∧ z.2.2.2.1 = nI (a + 1) ∧ SM J z.2.2.2.2) R) := fun u hu => by
    unfold m_129_j402 m_129_j417
    rw [if_pos hu]
    rcases ht with ht | ht
    · rw [if_pos ht]
      exact fin
    · by_cases c : t0 = 0
      · rw [if_pos c]
        exact fin
      · rw [if_neg c, if_pos (ht b hb (grd_end _ _ _ hg))]
        exact fin
  by_cases e : smA A s b = gsA A s
  · rw [if_pos e]
    exact fin2 _ (w2.trans (bz_t e))
  · rw [if_neg e]
    exact fin2 _ (w2.trans (bz_f e))
/-- the law's tally below k -/
def GI (I : ai_I) (A : SV) (s n k : Nat) (ok m w x : Int32) (J : ai_I) : Prop := ok = nI 1 ∧ m = nI (fln (cl (arv (A.2.2.1 s) (smA A s) (gsA A s))) k) ∧ w = nI (fln (inq (A.2.2.1 s) (smA A s) (gsA A s)) k) ∧ x = nI k ∧ (∀ x, x < k → J n x = irow (A.2.2.1 s) (smA A s) (gsA A s) x) ∧ SMr I J n
theorem k_g133 {k : Nat} {t0 ok m w : Int32} {R : Int32 × Int32 × Int32 × ai_I → Prop} (h : KA I A) (hs : s < 4) (hv : ary L v 256) (hp : ary L p 8) (hn : ary L n 256) (hvn : ¬ v = n) (hpn : ¬ p = n) (hV : HV I v (A.2.2.1 s)) (hP : ∀ e, e < 8 → I p e = A.2.2.2 e) (hk : k < 256) (ht : t0 = 0 ∨ ∀ b, b ∈ BL (A.2.2.1 s) → NX (A.2.2.1 s) (smA A s) b none → smA A s b = gsA A s) (hG : GI I A s n k ok m w (nI k) J) : wp (m_129_j133 1 (nI s) v p (Rc t) (gsA A s) t0 (Gc L) n ok m w (nI k) J (irow (A.2.2.1 s) (smA A s) (gsA A s) k)) (lq (fun z => GI I A s n (k + 1) z.1 z.2.1 z.2.2.1 z.2.2.2.1 z.2.2.2.2) R) := by
  obtain ⟨g1, g2, g3, -, g5, g6⟩ := hG
  subst g1
  subst g2
  subst g3
  have hv1 := hv.1
  have hp1 := hp.1
  have hn1 := hn.1
  have hle := fln_le (inq (A.2.2.1 s) (smA A s) (gsA A s)) k
  unfold m_129_j133
  rw [ay_in hn hk (by decide), o_g_t, o_b1_s, i_cl (by omega)]
  have hK : ot J (va_up J n (va_up (J n) k (irow (A.2.2.1 s) (smA A s) (gsA A s) k))) n := fun c hc => up_ne hc
  have hKk : (va_up J n (va_up (J n) k (irow (A.2.2.1 s) (smA A s) (gsA A s) k))) n k = irow (A.2.2.1 s) (smA A s) (gsA A s) k := by rw [up_eq, up_eq]
  have hKx : ∀ x, x < k + 1 → (va_up J n (va_up (J n) k (irow (A.2.2.1 s) (smA A s) (gsA A s) k))) n x = irow (A.2.2.1 s) (smA A s) (gsA A s) x := fun x hx => by
    rw [up_eq]
    by_cases c : x = k
    · rw [c, up_eq]
    · rw [up_ne c]
      exact g5 x (by omega)
  have hS : SMr I (va_up J n (va_up (J n) k (irow (A.2.2.1 s) (smA A s) (gsA A s) k))) n := SMr_ot g6 hK
  generalize va_up J n (va_up (J n) k (irow (A.2.2.1 s) (smA A s) (gsA A s) k)) = K at hKk hKx hS
  clear hK g5 g6
  have hKA := KA_smr h hn1 hS
  have hKV := HV_smr hV hv1 hvn hS
  have hKP : ∀ e, e < 8 → K p e = A.2.2.2 e := fun e he => by
    rw [hS p (Or.inr hp1) hpn]
    exact hP e he
  rw [k_isB hv hKV hk, o_b1_s, q_bz]
  by_cases c1 : A.2.2.1 s k ≠ NO
  · have hB : k ∈ BL (A.2.2.1 s) := BL_mem.2 ⟨hk, c1⟩
    rw [if_pos c1, o_g_t, hKk]
    have fin : ∀ (w : Nat) (M : ai_I), SM K M → w = fln (inq (A.2.2.1 s) (smA A s) (gsA A s)) (k + 1) → wp (m_129_j181 1 (nI s) v p (Rc t) (gsA A s) t0 (Gc L) (nI (fln (cl (arv (A.2.2.1 s) (smA A s) (gsA A s))) k)) (nI k) (nI 1) (nI w) M) (lq (fun z => GI I A s n (k + 1) z.1 z.2.1 z.2.2.1 z.2.2.2.1 z.2.2.2.2) R) := fun w M hM hw => by
      refine wp_mono (k_g181 (R := R) (KA_sm hKA hM) hs hv hp (HV_of hKV (hM v (Or.inr hv1))) (fun e he => by rw [hM p (Or.inr hp1)]; exact hKP e he) hB rfl ht) ?_
      rintro (z | z) hz
      · obtain ⟨z1, z2, z3, z4, z5⟩ := hz
        refine ⟨z1, z2, by rw [z3, hw], z4, fun x hx => ?_, SMr_sm hS (SM_tr hM z5)⟩
        rw [z5 n (Or.inr hn1), hM n (Or.inr hn1)]
        exact hKx x hx
      · exact hz
    by_cases c2 : smA A s k = gsA A s
    · have hi := inq_t (g := gsA A s) c1 c2
      have e1 : irow (A.2.2.1 s) (smA A s) (gsA A s) k = nI 0 := by
        unfold irow
        rw [if_pos hi]
      rw [e1, if_pos (show nI 0 = (0 : Int32) from rfl), q_10, k_1, o_g_t, i_add]
      refine wp_b2 (wp_mono (k_iniw (t := t) (L := L) hKA hs (by omega)) ?_)
      rintro ⟨x, M⟩ ⟨x1, x2⟩
      dsimp only at x1 x2 ⊢
      rcases x2 with ⟨b, b1, b2, b3, b4⟩ | ⟨-, b1⟩
      · obtain rfl := inq_one b2 b3 hi rfl
        rw [if_pos b4]
        unfold m_129_j176
        rw [i_add, o_b1_s]
        exact fin _ M x1 (by rw [fln_succ, if_pos hi])
      · exact absurd b1 (fun h9 => inq_not hk hi rfl h9)
    · have hi := inq_f (V := A.2.2.1 s) (S := smA A s) (g := gsA A s) (x := k) (Or.inr c2)
      have e1 : irow (A.2.2.1 s) (smA A s) (gsA A s) k = NO := by
        unfold irow
        rw [hi]
        rfl
      rw [e1, if_neg (by decide)]
      exact fin _ K SM_rf (by rw [fln_succ, hi, if_neg Bool.false_ne_true])
  · have hi := inq_f (V := A.2.2.1 s) (S := smA A s) (g := gsA A s) (x := k) (Or.inl (Decidable.of_not_not c1))
    rw [if_neg c1, i_add, o_b1_s, wp_s, lq_l]
    exact ⟨rfl, by dsimp only; rw [fln_f (fun h9 => c1 (BL_mem.1 h9.1).2)], by dsimp only; rw [fln_succ, hi, if_neg Bool.false_ne_true], rfl, hKx, hS⟩
theorem k_g90 {k : Nat} {t0 ok m w : Int32} {R : Int32 × Int32 × Int32 × ai_I → Prop} (h : KA I A) (hs : s < 4) (hv : ary L v 256) (hp : ary L p 8) (hn : ary L n 256) (hvn : ¬ v = n) (hpn : ¬ p = n) (hV : HV I v (A.2.2.1 s)) (hP : ∀ e, e < 8 → I p e = A.2.2.2 e) (hk : k < 256) (ht : t0 = 0 ∨ ∀ b, b ∈ BL (A.2.2.1 s) → NX (A.2.2.1 s) (smA A s) b none → smA A s b = gsA A s) (hG : GI I A s n k ok m w (nI k) J) : wp (m_129_b90 1 (nI s) v p (Rc t) (gsA A s) t0 (Gc L) n ok m w (nI k) J) (lq (fun z => GI I A s n (k + 1) z.1 z.2.1 z.2.2.1 z.2.2.2.1 z.2.2.2.2) R) := by
  have hv1 := hv.1
  have hp1 := hp.1
  have hS := hG.2.2.2.2.2
  have hJV := HV_smr hV hv1 hvn hS
  have hJP : ∀ e, e < 8 → J p e = A.2.2.2 e := fun e he => by
    rw [hS p (Or.inr hp1) hpn]
    exact hP e he
  have fin := k_g133 (t := t) (t0 := t0) (R := R) h hs hv hp hn hvn hpn hV hP hk ht hG
  unfold m_129_b90 m_129_j131
  rw [q_leF (by omega) hk, k_isB hv hJV hk, o_b1_s, q_bz]
  by_cases c1 : A.2.2.1 s k ≠ NO
  · rw [if_pos c1]
    refine k_sum hv hp hJV hJP hk ?_
    rw [i_cl (by omega), hJV k hk]
    show wp (if smA A s k = gsA A s then _ else _) _
    by_cases c2 : smA A s k = gsA A s
    · rw [if_pos c2]
      rw [show irow (A.2.2.1 s) (smA A s) (gsA A s) k = nI 0 from by unfold irow; rw [if_pos (inq_t c1 c2)]] at fin
      exact fin
    · rw [if_neg c2, NO_eq]
      rw [show irow (A.2.2.1 s) (smA A s) (gsA A s) k = NO from by unfold irow; rw [inq_f (Or.inr c2)]; rfl] at fin
      exact fin
  · rw [if_neg c1, NO_eq]
    rw [show irow (A.2.2.1 s) (smA A s) (gsA A s) k = NO from by unfold irow; rw [inq_f (Or.inl (Decidable.of_not_not c1))]; rfl] at fin
    exact fin
end
