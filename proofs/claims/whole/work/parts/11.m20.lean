/-! Models of methods and their proofs, piece 20. Printed by wip/whole/pr10.py. -/
def m_321_x22_92 (w3_92 : Int32) (w4_92 : Int32) : Option (Int32) :=
  if w4_92 = (nI 1000000000) then (some (-2 : Int32)) else (some (w3_92 - w4_92))
def m_321_b22 (th : Nat) (a0 : Int32) (a1 : Int32) (I : ai_I) (Rf : ai_R) (G : ai_G) (v3_22 : Int32) (v4_22 : Int32) (v5_22 : Int32) : Option ((Int32 × Int32 × Int32) ⊕ (Int32 × Int32)) :=
  if (nI 256) ≤ v5_22 then (some (Sum.inr (v3_22, v4_22))) else (o_b1 (m_281 th a0 a1 v5_22 I Rf G) (fun r_35 => if r_35 = 0 then (o_b1 (some (v5_22 + (nI 1))) (fun x5_86 => some (Sum.inl (v3_22, v4_22, x5_86)))) else (o_b1 (m_198 th a0 v5_22 I Rf G) (fun r_49 => o_b1 (m_198 th a1 v5_22 I Rf G) (fun r_56 => o_b1 (m_191 v3_22 (r_49 - r_56)) (fun r_60 => o_b1 (m_198 th a0 v5_22 I Rf G) (fun r_70 => o_b1 (m_198 th a1 v5_22 I Rf G) (fun r_77 => o_b1 (m_190 v4_22 (r_70 - r_77)) (fun r_81 => o_b1 (some (v5_22 + (nI 1))) (fun x5_86 => some (Sum.inl (r_60, r_81, x5_86))))))))))))
/-- PricedBasesModel.far(II)I -/
def m_321 (th : Nat) (a0 : Int32) (a1 : Int32) (I : ai_I) (Rf : ai_R) (G : ai_G) : Option (Int32) :=
  o_b1 (m_203 th a0 a1 I Rf G) (fun r_3 => if r_3 = 0 then (some (-1 : Int32)) else (o_s1 (lp (fun s => m_321_b22 th a0 a1 I Rf G s.1 s.2.1 s.2.2) o_N ((-2147483648 : Int32), (nI 1000000000), (nI 0))) (fun t => m_321_x22_92 t.1 t.2)))
theorem md_321 {d : Nat} {I : ai_I} {J : ai_J} {Rf : ai_R} {G : ai_G} {th : Nat} {a0 : Int32} {a1 : Int32} {r : Int32} (hd : 4 ≤ d) (hth : G.1 th = 11) (h : m_321 th a0 a1 I Rf G = some r) : ai_Cl si_t si_ms d 321 [.inr (.inr th), .inl a0, .inl a1] I J Rf G (some (.inl r)) I J Rf G := by
  obtain ⟨e, rfl⟩ : ∃ e, d = e + 1 := ⟨d - 1, by omega⟩
  unfold m_321 at h
  refine sp_in (lo := [some (.inr (.inr th)), some (.inl a0), some (.inl a1), none, none, none]) (B := (0, 0)) rfl (Nat.le_of_ble_eq_true rfl) rfl rfl ?_
  refine go_aload_n (pc' := 1) rfl rfl rfl ?_
  refine go_iload_n (pc' := 2) rfl rfl rfl ?_
  refine go_iload_n (pc' := 3) rfl rfl rfl ?_
  obtain ⟨r_3, q_3, h⟩ := o_b1E h
  refine go_callV (pc' := 6) (B' := (0, 0)) (st' := [.inl r_3]) rfl rfl (Or.inl (by decide)) rfl rfl hth (md_203 (by omega) hth q_3) rfl rfl rfl ?_
  refine go_if_ne (pt := 11) (pc' := 9) rfl rfl rfl (fun h6 => ?_) (fun h6 => ?_)
  · replace h := o_f h6 h
    refine go_ldc (pc' := 13) (v := .inl (-2147483648 : Int32)) rfl rfl rfl ?_
    refine go_istore_n (pc' := 14) (lo' := [some (.inr (.inr th)), some (.inl a0), some (.inl a1), some (.inl (-2147483648 : Int32)), none, none]) rfl rfl rfl ?_
    refine go_ldc_w (pc' := 17) (v := .inl (nI 1000000000)) rfl rfl rfl ?_
    refine go_istore (pc' := 19) (lo' := [some (.inr (.inr th)), some (.inl a0), some (.inl a1), some (.inl (-2147483648 : Int32)), some (.inl (nI 1000000000)), none]) rfl rfl rfl ?_
    refine go_iconst (pc' := 20) (v := (nI 0)) rfl rfl rfl ?_
    refine go_istore (pc' := 22) (lo' := [some (.inr (.inr th)), some (.inl a0), some (.inl a1), some (.inl (-2147483648 : Int32)), some (.inl (nI 1000000000)), some (.inl (nI 0))]) rfl rfl rfl ?_
    obtain ⟨q22, hl22, hc22_92⟩ := o_s1E h
    have ex22_92 : ∀ (w3_92 : Int32) (w4_92 : Int32) (z5_x92 : Option ai_V), (w3_92, w4_92) = q22 → ai_Go si_t (11, false, 0, cd_321) (ai_Cl si_t si_ms e) (sp_Q (some (.inl r)) I J Rf G) 92 [some (.inr (.inr th)), some (.inl a0), some (.inl a1), some (.inl w3_92), some (.inl w4_92), z5_x92] [] (0, 0) I J Rf G := by
      intro w3_92 w4_92 z5_x92 hq
      have h : m_321_x22_92 w3_92 w4_92 = some r := hc22_92 (w3_92, w4_92) hq.symm
      unfold m_321_x22_92 at h
      refine go_iload (pc' := 94) rfl rfl rfl ?_
      refine go_ldc_w (pc' := 97) (v := .inl (nI 1000000000)) rfl rfl rfl ?_
      refine go_icmp_ne (pt := 105) (pc' := 100) rfl rfl rfl (fun h97 => ?_) (fun h97 => ?_)
      · replace h := o_f h97 h
        refine go_iload_n (pc' := 106) rfl rfl rfl ?_
        refine go_iload (pc' := 108) rfl rfl rfl ?_
        refine go_isub (pc' := 109) rfl rfl ?_
        cases h
        exact go_iret rfl (trivial) ⟨rfl, rfl, rfl, rfl, rfl⟩
      · replace h := o_t (Decidable.of_not_not h97) h
        refine go_bipush (pc' := 102) (v := (-2 : Int32)) rfl rfl rfl ?_
        refine go_goto (pc' := 109) rfl rfl ?_
        cases h
        exact go_iret rfl (trivial) ⟨rfl, rfl, rfl, rfl, rfl⟩
    have lo22 : ∀ n s, lp (fun s => m_321_b22 th a0 a1 I Rf G s.1 s.2.1 s.2.2) n s = some q22 → (fun s => ai_Go si_t (11, false, 0, cd_321) (ai_Cl si_t si_ms e) (sp_Q (some (.inl r)) I J Rf G) 22 [some (.inr (.inr th)), some (.inl a0), some (.inl a1), some (.inl s.1), some (.inl s.2.1), some (.inl s.2.2)] [] (0, 0) I J Rf G) s := lp_go (fun s x22 hx hk22 => by
      obtain ⟨v3_22, v4_22, v5_22⟩ := s
      have h : m_321_b22 th a0 a1 I Rf G v3_22 v4_22 v5_22 = some x22 := hx
      clear hx
      show ai_Go si_t (11, false, 0, cd_321) (ai_Cl si_t si_ms e) (sp_Q (some (.inl r)) I J Rf G) 22 [some (.inr (.inr th)), some (.inl a0), some (.inl a1), some (.inl v3_22), some (.inl v4_22), some (.inl v5_22)] [] (0, 0) I J Rf G
      unfold m_321_b22 at h
      refine go_iload (pc' := 24) rfl rfl rfl ?_
      refine go_sipush (pc' := 27) (v := (nI 256)) rfl rfl rfl ?_
      refine go_icmp_ge (pt := 92) (pc' := 30) rfl rfl rfl (fun h27 => ?_) (fun h27 => ?_)
      · replace h := o_t h27 h
        exact ex22_92 _ _ (some (.inl v5_22)) (lp_exitE h hk22)
      · replace h := o_f h27 h
        refine go_aload_n (pc' := 31) rfl rfl rfl ?_
        refine go_iload_n (pc' := 32) rfl rfl rfl ?_
        refine go_iload_n (pc' := 33) rfl rfl rfl ?_
        refine go_iload (pc' := 35) rfl rfl rfl ?_
        obtain ⟨r_35, q_35, h⟩ := o_b1E h
        refine go_callV (pc' := 38) (B' := (0, 0)) (st' := [.inl r_35]) rfl rfl (Or.inl (by decide)) rfl rfl hth (md_281 (by omega) hth q_35) rfl rfl rfl ?_
        refine go_if_ne (pt := 44) (pc' := 41) rfl rfl rfl (fun h38 => ?_) (fun h38 => ?_)
        · replace h := o_f h38 h
          refine go_iload_n (pc' := 45) rfl rfl rfl ?_
          refine go_aload_n (pc' := 46) rfl rfl rfl ?_
          refine go_iload_n (pc' := 47) rfl rfl rfl ?_
          refine go_iload (pc' := 49) rfl rfl rfl ?_
          obtain ⟨r_49, q_49, h⟩ := o_b1E h
          refine go_callV (pc' := 52) (B' := (0, 0)) (st' := [.inl r_49, .inl v3_22]) rfl rfl (Or.inl (by decide)) rfl rfl hth (md_198 (by omega) hth q_49) rfl rfl rfl ?_
          refine go_aload_n (pc' := 53) rfl rfl rfl ?_
          refine go_iload_n (pc' := 54) rfl rfl rfl ?_
          refine go_iload (pc' := 56) rfl rfl rfl ?_
          obtain ⟨r_56, q_56, h⟩ := o_b1E h
          refine go_callV (pc' := 59) (B' := (0, 0)) (st' := [.inl r_56, .inl r_49, .inl v3_22]) rfl rfl (Or.inl (by decide)) rfl rfl hth (md_198 (by omega) hth q_56) rfl rfl rfl ?_
          refine go_isub (pc' := 60) rfl rfl ?_
          obtain ⟨r_60, q_60, h⟩ := o_b1E h
          refine go_callS (pc' := 63) (B' := (0, 0)) (st' := [.inl r_60]) rfl rfl (Or.inl (by decide)) rfl rfl trivial (md_191 (by omega) q_60) rfl rfl rfl ?_
          refine go_istore_n (pc' := 64) (lo' := [some (.inr (.inr th)), some (.inl a0), some (.inl a1), some (.inl r_60), some (.inl v4_22), some (.inl v5_22)]) rfl rfl rfl ?_
          refine go_iload (pc' := 66) rfl rfl rfl ?_
          refine go_aload_n (pc' := 67) rfl rfl rfl ?_
          refine go_iload_n (pc' := 68) rfl rfl rfl ?_
          refine go_iload (pc' := 70) rfl rfl rfl ?_
          obtain ⟨r_70, q_70, h⟩ := o_b1E h
          refine go_callV (pc' := 73) (B' := (0, 0)) (st' := [.inl r_70, .inl v4_22]) rfl rfl (Or.inl (by decide)) rfl rfl hth (md_198 (by omega) hth q_70) rfl rfl rfl ?_
          refine go_aload_n (pc' := 74) rfl rfl rfl ?_
          refine go_iload_n (pc' := 75) rfl rfl rfl ?_
          refine go_iload (pc' := 77) rfl rfl rfl ?_
          obtain ⟨r_77, q_77, h⟩ := o_b1E h
          refine go_callV (pc' := 80) (B' := (0, 0)) (st' := [.inl r_77, .inl r_70, .inl v4_22]) rfl rfl (Or.inl (by decide)) rfl rfl hth (md_198 (by omega) hth q_77) rfl rfl rfl ?_
          refine go_isub (pc' := 81) rfl rfl ?_
          obtain ⟨r_81, q_81, h⟩ := o_b1E h
          refine go_callS (pc' := 84) (B' := (0, 0)) (st' := [.inl r_81]) rfl rfl (Or.inl (by decide)) rfl rfl trivial (md_190 (by omega) q_81) rfl rfl rfl ?_
          refine go_istore (pc' := 86) (lo' := [some (.inr (.inr th)), some (.inl a0), some (.inl a1), some (.inl r_60), some (.inl r_81), some (.inl v5_22)]) rfl rfl rfl ?_
          obtain ⟨x5_86, ex5_86, h⟩ := o_b1E h
          refine go_iincE (pc' := 89) rfl rfl (y := (nI 1)) rfl ex5_86 (lo' := [some (.inr (.inr th)), some (.inl a0), some (.inl a1), some (.inl r_60), some (.inl r_81), some (.inl x5_86)]) rfl rfl ?_
          refine go_goto (pc' := 22) rfl rfl ?_
          exact (lp_backE h hk22 :)
        · replace h := o_t (Decidable.of_not_not h38) h
          refine go_goto (pc' := 86) rfl rfl ?_
          obtain ⟨x5_86, ex5_86, h⟩ := o_b1E h
          refine go_iincE (pc' := 89) rfl rfl (y := (nI 1)) rfl ex5_86 (lo' := [some (.inr (.inr th)), some (.inl a0), some (.inl a1), some (.inl v3_22), some (.inl v4_22), some (.inl x5_86)]) rfl rfl ?_
          refine go_goto (pc' := 22) rfl rfl ?_
          exact (lp_backE h hk22 :))
    exact lo22 _ ((-2147483648 : Int32), (nI 1000000000), (nI 0)) hl22 
  · replace h := o_t (Decidable.of_not_not h6) h
    refine go_iconst (pc' := 10) (v := (-1 : Int32)) rfl rfl rfl ?_
    cases h
    exact go_iret rfl (trivial) ⟨rfl, rfl, rfl, rfl, rfl⟩
/-- PricedBasesModel.drawn0(I)I -/
def m_322 (th : Nat) (a0 : Int32) (I : ai_I) (Rf : ai_R) (G : ai_G) : Option (Int32 × ai_I) :=
  o_g (o_in G 13 (Rf th 0) (nI 1040)) (o_g (o_in G 13 (Rf th 0) (nI 1040)) (o_b1 (some (va_up I (Rf th 0) (va_up (I (Rf th 0)) (nI 1040).toNatClampNeg ((((nI 25173) * (I (Rf th 0) (nI 1040).toNatClampNeg)) + (nI 13849)) - (((nI 25173) * (I (Rf th 0) (nI 1040).toNatClampNeg)) + (nI 13849)) / (nI 65536) * (nI 65536))))) (fun I_27 => o_g (o_in G 13 (Rf th 0) (nI 1040)) (o_g (o_nzI a0) (some ((I_27 (Rf th 0) (nI 1040).toNatClampNeg) - (I_27 (Rf th 0) (nI 1040).toNatClampNeg) / a0 * a0, I_27))))))
theorem md_322 {d : Nat} {I : ai_I} {J : ai_J} {Rf : ai_R} {G : ai_G} {th : Nat} {a0 : Int32} {r : Int32} {I1 : ai_I} (hd : 1 ≤ d) (hth : G.1 th = 11) (h : m_322 th a0 I Rf G = some (r, I1)) : ai_Cl si_t si_ms d 322 [.inr (.inr th), .inl a0] I J Rf G (some (.inl r)) I1 J Rf G := by
  obtain ⟨e, rfl⟩ : ∃ e, d = e + 1 := ⟨d - 1, by omega⟩
  unfold m_322 at h
  refine sp_in (lo := [some (.inr (.inr th)), some (.inl a0)]) (B := (0, 0)) rfl (Nat.le_of_ble_eq_true rfl) rfl rfl ?_
  refine go_aload_n (pc' := 1) rfl rfl rfl ?_
  refine go_getR (pc' := 4) rfl rfl hth rfl ?_
  refine go_sipush (pc' := 7) (v := (nI 1040)) rfl rfl rfl ?_
  refine go_sipush (pc' := 10) (v := (nI 25173)) rfl rfl rfl ?_
  refine go_aload_n (pc' := 11) rfl rfl rfl ?_
  refine go_getR (pc' := 14) rfl rfl hth rfl ?_
  refine go_sipush (pc' := 17) (v := (nI 1040)) rfl rfl rfl ?_
  obtain ⟨g0, h⟩ := o_gE h
  refine go_iaload (pc' := 18) rfl (o_inK g0) (o_inB g0) rfl ?_
  refine go_imul (pc' := 19) rfl rfl ?_
  refine go_sipush (pc' := 22) (v := (nI 13849)) rfl rfl rfl ?_
  refine go_iadd (pc' := 23) rfl rfl ?_
  refine go_ldc_w (pc' := 26) (v := .inl (nI 65536)) rfl rfl rfl ?_
  refine go_irem (pc' := 27) rfl (by decide) rfl ?_
  obtain ⟨g1, h⟩ := o_gE h
  obtain ⟨I_27, eI_27, h⟩ := o_b1E h
  refine go_iastore (pc' := 28) rfl (o_inK g1) (o_inB g1) rfl ?_
  refine go_ndMI eI_27 ?_
  refine go_aload_n (pc' := 29) rfl rfl rfl ?_
  refine go_getR (pc' := 32) rfl rfl hth rfl ?_
  refine go_sipush (pc' := 35) (v := (nI 1040)) rfl rfl rfl ?_
  obtain ⟨g2, h⟩ := o_gE h
  refine go_iaload (pc' := 36) rfl (o_inK g2) (o_inB g2) rfl ?_
  refine go_iload_n (pc' := 37) rfl rfl rfl ?_
  obtain ⟨g3, h⟩ := o_gE h
  refine go_irem (pc' := 38) rfl (o_nzIE g3) rfl ?_
  cases h
  exact go_iret rfl (trivial) ⟨rfl, rfl, rfl, rfl, rfl⟩
def m_323_x4_35 (w3_35 : Int32) : Option (Int32) :=
  some w3_35
def m_323_j16 (a0 : Int32) (v2_4 : Int32) (v3_4 : Int32) : Option ((Int32 × Int32) ⊕ Int32) :=
  o_b1 (m_192 a0 v3_4) (fun r_18 => if r_18 = 0 then (o_b1 (some (v3_4 + (nI 1))) (fun x3_31 => some (Sum.inl (v2_4, x3_31)))) else (o_b1 (some (v2_4 - (nI 1))) (fun x2_27 => o_b1 (some (v3_4 + (nI 1))) (fun x3_31 => some (Sum.inl (x2_27, x3_31))))))
def m_323_b4 (a0 : Int32) (v2_4 : Int32) (v3_4 : Int32) : Option ((Int32 × Int32) ⊕ Int32) :=
  o_b1 (m_192 a0 v3_4) (fun r_6 => if r_6 = 0 then (m_323_j16 a0 v2_4 v3_4) else (if v2_4 ≤ 0 then (some (Sum.inr v3_4)) else (m_323_j16 a0 v2_4 v3_4)))
/-- PricedBasesModel.elementOf(II)I -/
def m_323 (a0 : Int32) (a1 : Int32) : Option (Int32) :=
  o_s1 (lp (fun s => m_323_b4 a0 s.1 s.2) o_N (a1, (nI 0))) (fun t => m_323_x4_35 t)
theorem md_323 {d : Nat} {I : ai_I} {J : ai_J} {Rf : ai_R} {G : ai_G} {a0 : Int32} {a1 : Int32} {r : Int32} (hd : 2 ≤ d) (h : m_323 a0 a1 = some r) : ai_Cl si_t si_ms d 323 [.inl a0, .inl a1] I J Rf G (some (.inl r)) I J Rf G := by
  obtain ⟨e, rfl⟩ : ∃ e, d = e + 1 := ⟨d - 1, by omega⟩
  unfold m_323 at h
  refine sp_in (lo := [some (.inl a0), some (.inl a1), none, none]) (B := (0, 0)) rfl (Nat.le_of_ble_eq_true rfl) rfl rfl ?_
  refine go_iload_n (pc' := 1) rfl rfl rfl ?_
  refine go_istore_n (pc' := 2) (lo' := [some (.inl a0), some (.inl a1), some (.inl a1), none]) rfl rfl rfl ?_
  refine go_iconst (pc' := 3) (v := (nI 0)) rfl rfl rfl ?_
  refine go_istore_n (pc' := 4) (lo' := [some (.inl a0), some (.inl a1), some (.inl a1), some (.inl (nI 0))]) rfl rfl rfl ?_
  obtain ⟨q4, hl4, hc4_35⟩ := o_s1E h
  have ex4_35 : ∀ (w3_35 : Int32) (z2_x35 : Option ai_V), w3_35 = q4 → ai_Go si_t (11, false, 0, cd_323) (ai_Cl si_t si_ms e) (sp_Q (some (.inl r)) I J Rf G) 35 [some (.inl a0), some (.inl a1), z2_x35, some (.inl w3_35)] [] (0, 0) I J Rf G := by
    intro w3_35 z2_x35 hq
    have h : m_323_x4_35 w3_35 = some r := hc4_35 w3_35 hq.symm
    unfold m_323_x4_35 at h
    refine go_iload_n (pc' := 36) rfl rfl rfl ?_
    cases h
    exact go_iret rfl (trivial) ⟨rfl, rfl, rfl, rfl, rfl⟩
  have lo4 : ∀ n s, lp (fun s => m_323_b4 a0 s.1 s.2) n s = some q4 → (fun s => ai_Go si_t (11, false, 0, cd_323) (ai_Cl si_t si_ms e) (sp_Q (some (.inl r)) I J Rf G) 4 [some (.inl a0), some (.inl a1), some (.inl s.1), some (.inl s.2)] [] (0, 0) I J Rf G) s := lp_go (fun s x4 hx hk4 => by
    obtain ⟨v2_4, v3_4⟩ := s
    have h : m_323_b4 a0 v2_4 v3_4 = some x4 := hx
    clear hx
    show ai_Go si_t (11, false, 0, cd_323) (ai_Cl si_t si_ms e) (sp_Q (some (.inl r)) I J Rf G) 4 [some (.inl a0), some (.inl a1), some (.inl v2_4), some (.inl v3_4)] [] (0, 0) I J Rf G
    unfold m_323_b4 at h
    refine go_iload_n (pc' := 5) rfl rfl rfl ?_
    refine go_iload_n (pc' := 6) rfl rfl rfl ?_
    obtain ⟨r_6, q_6, h⟩ := o_b1E h
    refine go_callS (pc' := 9) (B' := (0, 0)) (st' := [.inl r_6]) rfl rfl (Or.inl (by decide)) rfl rfl trivial (md_192 (by omega) q_6) rfl rfl rfl ?_
    have jn16 : m_323_j16 a0 v2_4 v3_4 = some x4 → ai_Go si_t (11, false, 0, cd_323) (ai_Cl si_t si_ms e) (sp_Q (some (.inl r)) I J Rf G) 16 [some (.inl a0), some (.inl a1), some (.inl v2_4), some (.inl v3_4)] [] (0, 0) I J Rf G := by
      intro h
      unfold m_323_j16 at h
      refine go_iload_n (pc' := 17) rfl rfl rfl ?_
      refine go_iload_n (pc' := 18) rfl rfl rfl ?_
      obtain ⟨r_18, q_18, h⟩ := o_b1E h
      refine go_callS (pc' := 21) (B' := (0, 0)) (st' := [.inl r_18]) rfl rfl (Or.inl (by decide)) rfl rfl trivial (md_192 (by omega) q_18) rfl rfl rfl ?_
      refine go_if_eq (pt := 28) (pc' := 24) rfl rfl rfl (fun h21 => ?_) (fun h21 => ?_)
      · replace h := o_t h21 h
        refine go_iload_n (pc' := 29) rfl rfl rfl ?_
        refine go_iconst (pc' := 30) (v := (nI 1)) rfl rfl rfl ?_
        refine go_iadd (pc' := 31) rfl rfl ?_
        obtain ⟨x3_31, ex3_31, h⟩ := o_b1E h
        refine go_ndI ex3_31 ?_
        refine go_istore_n (pc' := 32) (lo' := [some (.inl a0), some (.inl a1), some (.inl v2_4), some (.inl x3_31)]) rfl rfl rfl ?_
        refine go_goto (pc' := 4) rfl rfl ?_
        exact (lp_backE h hk4 :)
      · replace h := o_f h21 h
        refine go_iload_n (pc' := 25) rfl rfl rfl ?_
        refine go_iconst (pc' := 26) (v := (nI 1)) rfl rfl rfl ?_
        refine go_isub (pc' := 27) rfl rfl ?_
        obtain ⟨x2_27, ex2_27, h⟩ := o_b1E h
        refine go_ndI ex2_27 ?_
        refine go_istore_n (pc' := 28) (lo' := [some (.inl a0), some (.inl a1), some (.inl x2_27), some (.inl v3_4)]) rfl rfl rfl ?_
        refine go_iload_n (pc' := 29) rfl rfl rfl ?_
        refine go_iconst (pc' := 30) (v := (nI 1)) rfl rfl rfl ?_
        refine go_iadd (pc' := 31) rfl rfl ?_
        obtain ⟨x3_31, ex3_31, h⟩ := o_b1E h
        refine go_ndI ex3_31 ?_
        refine go_istore_n (pc' := 32) (lo' := [some (.inl a0), some (.inl a1), some (.inl x2_27), some (.inl x3_31)]) rfl rfl rfl ?_
        refine go_goto (pc' := 4) rfl rfl ?_
        exact (lp_backE h hk4 :)
    refine go_if_eq (pt := 16) (pc' := 12) rfl rfl rfl (fun h9 => ?_) (fun h9 => ?_)
    · replace h := o_t h9 h
      exact jn16  h
    · replace h := o_f h9 h
      refine go_iload_n (pc' := 13) rfl rfl rfl ?_
      refine go_if_le (pt := 35) (pc' := 16) rfl rfl rfl (fun h13 => ?_) (fun h13 => ?_)
      · replace h := o_t h13 h
        exact ex4_35 _ (some (.inl v2_4)) (lp_exitE h hk4)
      · replace h := o_f h13 h
        exact jn16  h)
  exact lo4 _ (a1, (nI 0)) hl4 
def m_324_x54_149 (th : Nat) (a2 : Int32) (Rf : ai_R) (G : ai_G) (x4_39 : Int32) (w5_149 : Int32) (w6_149 : Int32) (Ix_149 : ai_I) : Option (Int32 × ai_I) :=
  o_g (o_in G 13 (Rf th 0) (nI 1040)) (o_b1 (some (va_up Ix_149 (Rf th 0) (va_up (Ix_149 (Rf th 0)) (nI 1040).toNatClampNeg x4_39))) (fun I_158 => if a2 = 0 then (some (w5_149, I_158)) else (some (w6_149, I_158))))
def m_324_b54 (th : Nat) (a0 : Int32) (a1 : Int32) (Rf : ai_R) (G : ai_G) (v5_54 : Int32) (v6_54 : Int32) (v7_54 : Int32) (I_54 : ai_I) : Option ((Int32 × Int32 × Int32 × ai_I) ⊕ (Int32 × Int32 × ai_I)) :=
  if a1 ≤ v7_54 then (some (Sum.inr (v5_54, v6_54, I_54))) else (o_b1 (m_196 th a0 I_54 Rf G) (fun r_65 => o_b2 (m_322 th r_65 I_54 Rf G) (fun r_68 I_68 => o_b1 (m_323 v5_54 r_68) (fun r_71 => o_b1 (m_197 th a0 I_68 Rf G) (fun r_78 => o_b1 (m_195 th a0 I_68 Rf G) (fun r_89 => o_b1 (m_196 th a0 I_68 Rf G) (fun r_94 => o_b2 (m_322 th (r_89 - r_94) I_68 Rf G) (fun r_98 I_98 => o_b1 (m_323 (r_78 &&& (v5_54 ^^^ (-1 : Int32))) r_98) (fun r_101 => o_b1 (some ((v5_54 ^^^ ((nI 1) <<< (r_71 &&& 31))) ^^^ ((nI 1) <<< (r_101 &&& 31)))) (fun x10_118 => o_b1 (m_199 th a0 x10_118 I_98 Rf G) (fun r_124 => if r_124 = 0 then (o_b1 (some (v7_54 + (nI 1))) (fun x7_143 => some (Sum.inl (v5_54, v6_54, x7_143, I_98)))) else (o_b1 (some (v6_54 + (nI 1))) (fun x6_141 => o_b1 (some (v7_54 + (nI 1))) (fun x7_143 => some (Sum.inl (x10_118, x6_141, x7_143, I_98))))))))))))))))
/-- PricedBasesModel.walk(III)I -/
def m_324 (th : Nat) (a0 : Int32) (a1 : Int32) (a2 : Int32) (I : ai_I) (Rf : ai_R) (G : ai_G) : Option (Int32 × ai_I) :=
  o_b1 (m_200 a0) (fun r_1 => if r_1 = 0 then (some ((-1 : Int32), I)) else (o_b1 (m_189 a1.toInt64 (1 : Int64) (1000 : Int64)) (fun r_13 => if r_13 = 0 then (some ((-1 : Int32), I)) else (o_b1 (m_189 a2.toInt64 (0 : Int64) (1 : Int64)) (fun r_23 => if r_23 = 0 then (some ((-1 : Int32), I)) else (o_g (o_in G 13 (Rf th 0) (nI 1040)) (o_b1 (some (I (Rf th 0) (nI 1040).toNatClampNeg)) (fun x4_39 => o_b1 (m_205 th a0 I Rf G) (fun r_43 => o_s1 (lp (fun s => m_324_b54 th a0 a1 Rf G s.1 s.2.1 s.2.2.1 s.2.2.2) o_N (r_43, (nI 0), (nI 0), I)) (fun t => m_324_x54_149 th a2 Rf G x4_39 t.1 t.2.1 t.2.2))))))))))
theorem md_324 {d : Nat} {I : ai_I} {J : ai_J} {Rf : ai_R} {G : ai_G} {th : Nat} {a0 : Int32} {a1 : Int32} {a2 : Int32} {r : Int32} {I1 : ai_I} (hd : 4 ≤ d) (hth : G.1 th = 11) (h : m_324 th a0 a1 a2 I Rf G = some (r, I1)) : ai_Cl si_t si_ms d 324 [.inr (.inr th), .inl a0, .inl a1, .inl a2] I J Rf G (some (.inl r)) I1 J Rf G := by
  obtain ⟨e, rfl⟩ : ∃ e, d = e + 1 := ⟨d - 1, by omega⟩
  unfold m_324 at h
  refine sp_in (lo := [some (.inr (.inr th)), some (.inl a0), some (.inl a1), some (.inl a2), none, none, none, none, none, none, none]) (B := (0, 0)) rfl (Nat.le_of_ble_eq_true rfl) rfl rfl ?_
  refine go_iload_n (pc' := 1) rfl rfl rfl ?_
  obtain ⟨r_1, q_1, h⟩ := o_b1E h
  refine go_callS (pc' := 4) (B' := (0, 0)) (st' := [.inl r_1]) rfl rfl (Or.inl (by decide)) rfl rfl trivial (md_200 (by omega) q_1) rfl rfl rfl ?_
  refine go_if_eq (pt := 29) (pc' := 7) rfl rfl rfl (fun h4 => ?_) (fun h4 => ?_)
  · replace h := o_t h4 h
    refine go_iconst (pc' := 30) (v := (-1 : Int32)) rfl rfl rfl ?_
    cases h
    exact go_iret rfl (trivial) ⟨rfl, rfl, rfl, rfl, rfl⟩
  · replace h := o_f h4 h
    refine go_iload_n (pc' := 8) rfl rfl rfl ?_
    refine go_i2l (pc' := 9) rfl rfl ?_
    refine go_lconst (pc' := 10) (v := (1 : Int64)) rfl rfl rfl ?_
    refine go_ldc2_w (pc' := 13) (v := .inr (.inl (1000 : Int64))) rfl rfl rfl ?_
    obtain ⟨r_13, q_13, h⟩ := o_b1E h
    refine go_callS (pc' := 16) (B' := (0, 0)) (st' := [.inl r_13]) rfl rfl (Or.inl (by decide)) rfl rfl trivial (md_189 (by omega) q_13) rfl rfl rfl ?_
    refine go_if_eq (pt := 29) (pc' := 19) rfl rfl rfl (fun h16 => ?_) (fun h16 => ?_)
    · replace h := o_t h16 h
      refine go_iconst (pc' := 30) (v := (-1 : Int32)) rfl rfl rfl ?_
      cases h
      exact go_iret rfl (trivial) ⟨rfl, rfl, rfl, rfl, rfl⟩
    · replace h := o_f h16 h
      refine go_iload_n (pc' := 20) rfl rfl rfl ?_
      refine go_i2l (pc' := 21) rfl rfl ?_
      refine go_lconst (pc' := 22) (v := (0 : Int64)) rfl rfl rfl ?_
      refine go_lconst (pc' := 23) (v := (1 : Int64)) rfl rfl rfl ?_
      obtain ⟨r_23, q_23, h⟩ := o_b1E h
      refine go_callS (pc' := 26) (B' := (0, 0)) (st' := [.inl r_23]) rfl rfl (Or.inl (by decide)) rfl rfl trivial (md_189 (by omega) q_23) rfl rfl rfl ?_
      refine go_if_ne (pt := 31) (pc' := 29) rfl rfl rfl (fun h26 => ?_) (fun h26 => ?_)
      · replace h := o_f h26 h
        refine go_aload_n (pc' := 32) rfl rfl rfl ?_
        refine go_getR (pc' := 35) rfl rfl hth rfl ?_
        refine go_sipush (pc' := 38) (v := (nI 1040)) rfl rfl rfl ?_
        obtain ⟨g0, h⟩ := o_gE h
        refine go_iaload (pc' := 39) rfl (o_inK g0) (o_inB g0) rfl ?_
        obtain ⟨x4_39, ex4_39, h⟩ := o_b1E h
        refine go_ndI ex4_39 ?_
        refine go_istore (pc' := 41) (lo' := [some (.inr (.inr th)), some (.inl a0), some (.inl a1), some (.inl a2), some (.inl x4_39), none, none, none, none, none, none]) rfl rfl rfl ?_
        refine go_aload_n (pc' := 42) rfl rfl rfl ?_
        refine go_iload_n (pc' := 43) rfl rfl rfl ?_
        obtain ⟨r_43, q_43, h⟩ := o_b1E h
        refine go_callV (pc' := 46) (B' := (0, 0)) (st' := [.inl r_43]) rfl rfl (Or.inl (by decide)) rfl rfl hth (md_205 (by omega) hth q_43) rfl rfl rfl ?_
        refine go_istore (pc' := 48) (lo' := [some (.inr (.inr th)), some (.inl a0), some (.inl a1), some (.inl a2), some (.inl x4_39), some (.inl r_43), none, none, none, none, none]) rfl rfl rfl ?_
        refine go_iconst (pc' := 49) (v := (nI 0)) rfl rfl rfl ?_
        refine go_istore (pc' := 51) (lo' := [some (.inr (.inr th)), some (.inl a0), some (.inl a1), some (.inl a2), some (.inl x4_39), some (.inl r_43), some (.inl (nI 0)), none, none, none, none]) rfl rfl rfl ?_
        refine go_iconst (pc' := 52) (v := (nI 0)) rfl rfl rfl ?_
        refine go_istore (pc' := 54) (lo' := [some (.inr (.inr th)), some (.inl a0), some (.inl a1), some (.inl a2), some (.inl x4_39), some (.inl r_43), some (.inl (nI 0)), some (.inl (nI 0)), none, none, none]) rfl rfl rfl ?_
        obtain ⟨q54, hl54, hc54_149⟩ := o_s1E h
        have ex54_149 : ∀ (w5_149 : Int32) (w6_149 : Int32) (Ix_149 : ai_I) (z7_x149 : Option ai_V) (z8_x149 : Option ai_V) (z9_x149 : Option ai_V) (z10_x149 : Option ai_V), (w5_149, w6_149, Ix_149) = q54 → ai_Go si_t (11, false, 0, cd_324) (ai_Cl si_t si_ms e) (sp_Q (some (.inl r)) I1 J Rf G) 149 [some (.inr (.inr th)), some (.inl a0), some (.inl a1), some (.inl a2), some (.inl x4_39), some (.inl w5_149), some (.inl w6_149), z7_x149, z8_x149, z9_x149, z10_x149] [] (0, 0) Ix_149 J Rf G := by
          intro w5_149 w6_149 Ix_149 z7_x149 z8_x149 z9_x149 z10_x149 hq
          have h : m_324_x54_149 th a2 Rf G x4_39 w5_149 w6_149 Ix_149 = some (r, I1) := hc54_149 (w5_149, w6_149, Ix_149) hq.symm
          unfold m_324_x54_149 at h
          refine go_aload_n (pc' := 150) rfl rfl rfl ?_
          refine go_getR (pc' := 153) rfl rfl hth rfl ?_
          refine go_sipush (pc' := 156) (v := (nI 1040)) rfl rfl rfl ?_
          refine go_iload (pc' := 158) rfl rfl rfl ?_
          obtain ⟨g1, h⟩ := o_gE h
          obtain ⟨I_158, eI_158, h⟩ := o_b1E h
          refine go_iastore (pc' := 159) rfl (o_inK g1) (o_inB g1) rfl ?_
          refine go_ndMI eI_158 ?_
          refine go_iload_n (pc' := 160) rfl rfl rfl ?_
          refine go_if_ne (pt := 168) (pc' := 163) rfl rfl rfl (fun h160 => ?_) (fun h160 => ?_)
          · replace h := o_f h160 h
            refine go_iload (pc' := 170) rfl rfl rfl ?_
            cases h
            exact go_iret rfl (trivial) ⟨rfl, rfl, rfl, rfl, rfl⟩
          · replace h := o_t (Decidable.of_not_not h160) h
            refine go_iload (pc' := 165) rfl rfl rfl ?_
            refine go_goto (pc' := 170) rfl rfl ?_
            cases h
            exact go_iret rfl (trivial) ⟨rfl, rfl, rfl, rfl, rfl⟩
        have lo54 : ∀ n s, lp (fun s => m_324_b54 th a0 a1 Rf G s.1 s.2.1 s.2.2.1 s.2.2.2) n s = some q54 → (fun s => ∀ (z8_54 : Option ai_V) (z9_54 : Option ai_V) (z10_54 : Option ai_V), ai_Go si_t (11, false, 0, cd_324) (ai_Cl si_t si_ms e) (sp_Q (some (.inl r)) I1 J Rf G) 54 [some (.inr (.inr th)), some (.inl a0), some (.inl a1), some (.inl a2), some (.inl x4_39), some (.inl s.1), some (.inl s.2.1), some (.inl s.2.2.1), z8_54, z9_54, z10_54] [] (0, 0) s.2.2.2 J Rf G) s := lp_go (fun s x54 hx hk54 => by
          obtain ⟨v5_54, v6_54, v7_54, I_54⟩ := s
          intro z8_54 z9_54 z10_54
          have h : m_324_b54 th a0 a1 Rf G v5_54 v6_54 v7_54 I_54 = some x54 := hx
          clear hx
          show ai_Go si_t (11, false, 0, cd_324) (ai_Cl si_t si_ms e) (sp_Q (some (.inl r)) I1 J Rf G) 54 [some (.inr (.inr th)), some (.inl a0), some (.inl a1), some (.inl a2), some (.inl x4_39), some (.inl v5_54), some (.inl v6_54), some (.inl v7_54), z8_54, z9_54, z10_54] [] (0, 0) I_54 J Rf G
          unfold m_324_b54 at h
          refine go_iload (pc' := 56) rfl rfl rfl ?_
          refine go_iload_n (pc' := 57) rfl rfl rfl ?_
          refine go_icmp_ge (pt := 149) (pc' := 60) rfl rfl rfl (fun h57 => ?_) (fun h57 => ?_)
          · replace h := o_t h57 h
            exact ex54_149 _ _ _ (some (.inl v7_54)) z8_54 z9_54 z10_54 (lp_exitE h hk54)
          · replace h := o_f h57 h
            refine go_iload (pc' := 62) rfl rfl rfl ?_
            refine go_aload_n (pc' := 63) rfl rfl rfl ?_
            refine go_aload_n (pc' := 64) rfl rfl rfl ?_
            refine go_iload_n (pc' := 65) rfl rfl rfl ?_
            obtain ⟨r_65, q_65, h⟩ := o_b1E h
            refine go_callV (pc' := 68) (B' := (0, 0)) (st' := [.inl r_65, .inr (.inr th), .inl v5_54]) rfl rfl (Or.inl (by decide)) rfl rfl hth (md_196 (by omega) hth q_65) rfl rfl rfl ?_
            obtain ⟨r_68, I_68, q_68, h⟩ := o_b2E h
            refine go_callV (pc' := 71) (B' := (0, 0)) (st' := [.inl r_68, .inl v5_54]) rfl rfl (Or.inl (by decide)) rfl rfl hth (md_322 (by omega) hth q_68) rfl rfl rfl ?_
            obtain ⟨r_71, q_71, h⟩ := o_b1E h
            refine go_callS (pc' := 74) (B' := (0, 0)) (st' := [.inl r_71]) rfl rfl (Or.inl (by decide)) rfl rfl trivial (md_323 (by omega) q_71) rfl rfl rfl ?_
            refine go_istore (pc' := 76) (lo' := [some (.inr (.inr th)), some (.inl a0), some (.inl a1), some (.inl a2), some (.inl x4_39), some (.inl v5_54), some (.inl v6_54), some (.inl v7_54), some (.inl r_71), z9_54, z10_54]) rfl rfl rfl ?_
            refine go_aload_n (pc' := 77) rfl rfl rfl ?_
            refine go_iload_n (pc' := 78) rfl rfl rfl ?_
            obtain ⟨r_78, q_78, h⟩ := o_b1E h
            refine go_callV (pc' := 81) (B' := (0, 0)) (st' := [.inl r_78]) rfl rfl (Or.inl (by decide)) rfl rfl hth (md_197 (by omega) hth q_78) rfl rfl rfl ?_
            refine go_iload (pc' := 83) rfl rfl rfl ?_
            refine go_iconst (pc' := 84) (v := (-1 : Int32)) rfl rfl rfl ?_
            refine go_ixor (pc' := 85) rfl rfl ?_
            refine go_iand (pc' := 86) rfl rfl ?_
            refine go_aload_n (pc' := 87) rfl rfl rfl ?_
            refine go_aload_n (pc' := 88) rfl rfl rfl ?_
            refine go_iload_n (pc' := 89) rfl rfl rfl ?_
            obtain ⟨r_89, q_89, h⟩ := o_b1E h
            refine go_callV (pc' := 92) (B' := (0, 0)) (st' := [.inl r_89, .inr (.inr th), .inl (r_78 &&& (v5_54 ^^^ (-1 : Int32)))]) rfl rfl (Or.inl (by decide)) rfl rfl hth (md_195 (by omega) hth q_89) rfl rfl rfl ?_
            refine go_aload_n (pc' := 93) rfl rfl rfl ?_
            refine go_iload_n (pc' := 94) rfl rfl rfl ?_
            obtain ⟨r_94, q_94, h⟩ := o_b1E h
            refine go_callV (pc' := 97) (B' := (0, 0)) (st' := [.inl r_94, .inl r_89, .inr (.inr th), .inl (r_78 &&& (v5_54 ^^^ (-1 : Int32)))]) rfl rfl (Or.inl (by decide)) rfl rfl hth (md_196 (by omega) hth q_94) rfl rfl rfl ?_
            refine go_isub (pc' := 98) rfl rfl ?_
            obtain ⟨r_98, I_98, q_98, h⟩ := o_b2E h
            refine go_callV (pc' := 101) (B' := (0, 0)) (st' := [.inl r_98, .inl (r_78 &&& (v5_54 ^^^ (-1 : Int32)))]) rfl rfl (Or.inl (by decide)) rfl rfl hth (md_322 (by omega) hth q_98) rfl rfl rfl ?_
            obtain ⟨r_101, q_101, h⟩ := o_b1E h
            refine go_callS (pc' := 104) (B' := (0, 0)) (st' := [.inl r_101]) rfl rfl (Or.inl (by decide)) rfl rfl trivial (md_323 (by omega) q_101) rfl rfl rfl ?_
            refine go_istore (pc' := 106) (lo' := [some (.inr (.inr th)), some (.inl a0), some (.inl a1), some (.inl a2), some (.inl x4_39), some (.inl v5_54), some (.inl v6_54), some (.inl v7_54), some (.inl r_71), some (.inl r_101), z10_54]) rfl rfl rfl ?_
            refine go_iload (pc' := 108) rfl rfl rfl ?_
            refine go_iconst (pc' := 109) (v := (nI 1)) rfl rfl rfl ?_
            refine go_iload (pc' := 111) rfl rfl rfl ?_
            refine go_ishl (pc' := 112) rfl rfl ?_
            refine go_ixor (pc' := 113) rfl rfl ?_
            refine go_iconst (pc' := 114) (v := (nI 1)) rfl rfl rfl ?_
            refine go_iload (pc' := 116) rfl rfl rfl ?_
            refine go_ishl (pc' := 117) rfl rfl ?_
            refine go_ixor (pc' := 118) rfl rfl ?_
            obtain ⟨x10_118, ex10_118, h⟩ := o_b1E h
            refine go_ndI ex10_118 ?_
            refine go_istore (pc' := 120) (lo' := [some (.inr (.inr th)), some (.inl a0), some (.inl a1), some (.inl a2), some (.inl x4_39), some (.inl v5_54), some (.inl v6_54), some (.inl v7_54), some (.inl r_71), some (.inl r_101), some (.inl x10_118)]) rfl rfl rfl ?_
            refine go_aload_n (pc' := 121) rfl rfl rfl ?_
            refine go_iload_n (pc' := 122) rfl rfl rfl ?_
            refine go_iload (pc' := 124) rfl rfl rfl ?_
            obtain ⟨r_124, q_124, h⟩ := o_b1E h
            refine go_callV (pc' := 127) (B' := (0, 0)) (st' := [.inl r_124]) rfl rfl (Or.inl (by decide)) rfl rfl hth (md_199 (by omega) hth q_124) rfl rfl rfl ?_
            refine go_if_ne (pt := 133) (pc' := 130) rfl rfl rfl (fun h127 => ?_) (fun h127 => ?_)
            · replace h := o_f h127 h
              refine go_iload (pc' := 135) rfl rfl rfl ?_
              refine go_istore (pc' := 137) (lo' := [some (.inr (.inr th)), some (.inl a0), some (.inl a1), some (.inl a2), some (.inl x4_39), some (.inl x10_118), some (.inl v6_54), some (.inl v7_54), some (.inl r_71), some (.inl r_101), some (.inl x10_118)]) rfl rfl rfl ?_
              refine go_iload (pc' := 139) rfl rfl rfl ?_
              refine go_iconst (pc' := 140) (v := (nI 1)) rfl rfl rfl ?_
              refine go_iadd (pc' := 141) rfl rfl ?_
              obtain ⟨x6_141, ex6_141, h⟩ := o_b1E h
              refine go_ndI ex6_141 ?_
              refine go_istore (pc' := 143) (lo' := [some (.inr (.inr th)), some (.inl a0), some (.inl a1), some (.inl a2), some (.inl x4_39), some (.inl x10_118), some (.inl x6_141), some (.inl v7_54), some (.inl r_71), some (.inl r_101), some (.inl x10_118)]) rfl rfl rfl ?_
              obtain ⟨x7_143, ex7_143, h⟩ := o_b1E h
              refine go_iincE (pc' := 146) rfl rfl (y := (nI 1)) rfl ex7_143 (lo' := [some (.inr (.inr th)), some (.inl a0), some (.inl a1), some (.inl a2), some (.inl x4_39), some (.inl x10_118), some (.inl x6_141), some (.inl x7_143), some (.inl r_71), some (.inl r_101), some (.inl x10_118)]) rfl rfl ?_
              refine go_goto (pc' := 54) rfl rfl ?_
              exact (lp_backE h hk54 (some (.inl r_71)) (some (.inl r_101)) (some (.inl x10_118)) :)
            · replace h := o_t (Decidable.of_not_not h127) h
              refine go_goto (pc' := 143) rfl rfl ?_
              obtain ⟨x7_143, ex7_143, h⟩ := o_b1E h
              refine go_iincE (pc' := 146) rfl rfl (y := (nI 1)) rfl ex7_143 (lo' := [some (.inr (.inr th)), some (.inl a0), some (.inl a1), some (.inl a2), some (.inl x4_39), some (.inl v5_54), some (.inl v6_54), some (.inl x7_143), some (.inl r_71), some (.inl r_101), some (.inl x10_118)]) rfl rfl ?_
              refine go_goto (pc' := 54) rfl rfl ?_
              exact (lp_backE h hk54 (some (.inl r_71)) (some (.inl r_101)) (some (.inl x10_118)) :))
        exact lo54 _ (r_43, (nI 0), (nI 0), I) hl54 none none none
      · replace h := o_t (Decidable.of_not_not h26) h
        refine go_iconst (pc' := 30) (v := (-1 : Int32)) rfl rfl rfl ?_
        cases h
        exact go_iret rfl (trivial) ⟨rfl, rfl, rfl, rfl, rfl⟩
def m_325_x32_107 (th : Nat) (Rf : ai_R) (G : ai_G) (w3_107 : Int32) (Ix_107 : ai_I) : Option (Int32 × ai_I) :=
  o_b1 (m_194 th (nI 2) (nI 0) Ix_107 Rf G) (fun I_110 => some (w3_107, I_110))
def m_325_x41_74 (th : Nat) (a0 : Int32) (Rf : ai_R) (G : ai_G) (v3_32 : Int32) (v4_32 : Int32) (Ix_74 : ai_I) : Option ((Int32 × Int32 × ai_I) ⊕ (Int32 × ai_I)) :=
  o_b1 (m_205 th a0 Ix_74 Rf G) (fun r_80 => o_b2 (m_269 th a0 r_80 Ix_74 Rf G) (fun r_83 I_83 => o_b1 (m_265 th a0 r_83 I_83 Rf G) (fun r_86 => o_b1 (m_266 th a0 I_83 Rf G) (fun r_91 => if r_86 = r_91 then (o_b1 (some (v3_32 + (nI 1))) (fun x3_100 => o_b1 (some (v4_32 + (nI 1))) (fun x4_101 => some (Sum.inl (x3_100, x4_101, I_83))))) else (o_b1 (some (v4_32 + (nI 1))) (fun x4_101 => some (Sum.inl (v3_32, x4_101, I_83))))))))
def m_325_b41 (th : Nat) (Rf : ai_R) (G : ai_G) (v5_41 : Int32) (I_41 : ai_I) : Option ((Int32 × ai_I) ⊕ ai_I) :=
  if (nI 8) ≤ v5_41 then (some (Sum.inr I_41)) else (o_b2 (m_322 th (nI 21) I_41 Rf G) (fun r_61 I_61 => o_g (o_in G 13 (Rf th 0) ((nI 1032) + v5_41)) (o_b1 (some (va_up I_61 (Rf th 0) (va_up (I_61 (Rf th 0)) ((nI 1032) + v5_41).toNatClampNeg (r_61 - (nI 10))))) (fun I_67 => o_b1 (some (v5_41 + (nI 1))) (fun x5_68 => some (Sum.inl (x5_68, I_67)))))))
def m_325_b32 (th : Nat) (a0 : Int32) (a1 : Int32) (Rf : ai_R) (G : ai_G) (v3_32 : Int32) (v4_32 : Int32) (I_32 : ai_I) : Option ((Int32 × Int32 × ai_I) ⊕ (Int32 × ai_I)) :=
  if a1 ≤ v4_32 then (some (Sum.inr (v3_32, I_32))) else (o_s1 (lp (fun s => m_325_b41 th Rf G s.1 s.2) o_N ((nI 0), I_32)) (fun t => m_325_x41_74 th a0 Rf G v3_32 v4_32 t))
/-- PricedBasesModel.drawn(II)I -/
def m_325 (th : Nat) (a0 : Int32) (a1 : Int32) (I : ai_I) (Rf : ai_R) (G : ai_G) : Option (Int32 × ai_I) :=
  o_b1 (m_200 a0) (fun r_1 => if r_1 = 0 then (some ((-1 : Int32), I)) else (o_b1 (m_189 a1.toInt64 (1 : Int64) (60 : Int64)) (fun r_13 => if r_13 = 0 then (some ((-1 : Int32), I)) else (o_b1 (m_194 th (nI 0) (nI 2) I Rf G) (fun I_24 => o_s1 (lp (fun s => m_325_b32 th a0 a1 Rf G s.1 s.2.1 s.2.2) o_N ((nI 0), (nI 0), I_24)) (fun t => m_325_x32_107 th Rf G t.1 t.2))))))
theorem md_325 {d : Nat} {I : ai_I} {J : ai_J} {Rf : ai_R} {G : ai_G} {th : Nat} {a0 : Int32} {a1 : Int32} {r : Int32} {I1 : ai_I} (hd : 6 ≤ d) (hth : G.1 th = 11) (h : m_325 th a0 a1 I Rf G = some (r, I1)) : ai_Cl si_t si_ms d 325 [.inr (.inr th), .inl a0, .inl a1] I J Rf G (some (.inl r)) I1 J Rf G := by
  obtain ⟨e, rfl⟩ : ∃ e, d = e + 1 := ⟨d - 1, by omega⟩
  unfold m_325 at h
  refine sp_in (lo := [some (.inr (.inr th)), some (.inl a0), some (.inl a1), none, none, none]) (B := (0, 0)) rfl (Nat.le_of_ble_eq_true rfl) rfl rfl ?_
  refine go_iload_n (pc' := 1) rfl rfl rfl ?_
  obtain ⟨r_1, q_1, h⟩ := o_b1E h
  refine go_callS (pc' := 4) (B' := (0, 0)) (st' := [.inl r_1]) rfl rfl (Or.inl (by decide)) rfl rfl trivial (md_200 (by omega) q_1) rfl rfl rfl ?_
  refine go_if_eq (pt := 19) (pc' := 7) rfl rfl rfl (fun h4 => ?_) (fun h4 => ?_)
  · replace h := o_t h4 h
    refine go_iconst (pc' := 20) (v := (-1 : Int32)) rfl rfl rfl ?_
    cases h
    exact go_iret rfl (trivial) ⟨rfl, rfl, rfl, rfl, rfl⟩
  · replace h := o_f h4 h
    refine go_iload_n (pc' := 8) rfl rfl rfl ?_
    refine go_i2l (pc' := 9) rfl rfl ?_
    refine go_lconst (pc' := 10) (v := (1 : Int64)) rfl rfl rfl ?_
    refine go_ldc2_w (pc' := 13) (v := .inr (.inl (60 : Int64))) rfl rfl rfl ?_
    obtain ⟨r_13, q_13, h⟩ := o_b1E h
    refine go_callS (pc' := 16) (B' := (0, 0)) (st' := [.inl r_13]) rfl rfl (Or.inl (by decide)) rfl rfl trivial (md_189 (by omega) q_13) rfl rfl rfl ?_
    refine go_if_ne (pt := 21) (pc' := 19) rfl rfl rfl (fun h16 => ?_) (fun h16 => ?_)
    · replace h := o_f h16 h
      refine go_aload_n (pc' := 22) rfl rfl rfl ?_
      refine go_iconst (pc' := 23) (v := (nI 0)) rfl rfl rfl ?_
      refine go_iconst (pc' := 24) (v := (nI 2)) rfl rfl rfl ?_
      obtain ⟨I_24, q_24, h⟩ := o_b1E h
      refine go_callV (pc' := 27) (B' := (0, 0)) (st' := []) rfl rfl (Or.inl (by decide)) rfl rfl hth (md_194 (by omega) hth q_24) rfl rfl rfl ?_
      refine go_iconst (pc' := 28) (v := (nI 0)) rfl rfl rfl ?_
      refine go_istore_n (pc' := 29) (lo' := [some (.inr (.inr th)), some (.inl a0), some (.inl a1), some (.inl (nI 0)), none, none]) rfl rfl rfl ?_
      refine go_iconst (pc' := 30) (v := (nI 0)) rfl rfl rfl ?_
      refine go_istore (pc' := 32) (lo' := [some (.inr (.inr th)), some (.inl a0), some (.inl a1), some (.inl (nI 0)), some (.inl (nI 0)), none]) rfl rfl rfl ?_
      obtain ⟨q32, hl32, hc32_107⟩ := o_s1E h
      have ex32_107 : ∀ (w3_107 : Int32) (Ix_107 : ai_I) (z4_x107 : Option ai_V) (z5_x107 : Option ai_V), (w3_107, Ix_107) = q32 → ai_Go si_t (11, false, 0, cd_325) (ai_Cl si_t si_ms e) (sp_Q (some (.inl r)) I1 J Rf G) 107 [some (.inr (.inr th)), some (.inl a0), some (.inl a1), some (.inl w3_107), z4_x107, z5_x107] [] (0, 0) Ix_107 J Rf G := by
        intro w3_107 Ix_107 z4_x107 z5_x107 hq
        have h : m_325_x32_107 th Rf G w3_107 Ix_107 = some (r, I1) := hc32_107 (w3_107, Ix_107) hq.symm
        unfold m_325_x32_107 at h
        refine go_aload_n (pc' := 108) rfl rfl rfl ?_
        refine go_iconst (pc' := 109) (v := (nI 2)) rfl rfl rfl ?_
        refine go_iconst (pc' := 110) (v := (nI 0)) rfl rfl rfl ?_
        obtain ⟨I_110, q_110, h⟩ := o_b1E h
        refine go_callV (pc' := 113) (B' := (0, 0)) (st' := []) rfl rfl (Or.inl (by decide)) rfl rfl hth (md_194 (by omega) hth q_110) rfl rfl rfl ?_
        refine go_iload_n (pc' := 114) rfl rfl rfl ?_
        cases h
        exact go_iret rfl (trivial) ⟨rfl, rfl, rfl, rfl, rfl⟩
      have lo32 : ∀ n s, lp (fun s => m_325_b32 th a0 a1 Rf G s.1 s.2.1 s.2.2) n s = some q32 → (fun s => ∀ (z5_32 : Option ai_V), ai_Go si_t (11, false, 0, cd_325) (ai_Cl si_t si_ms e) (sp_Q (some (.inl r)) I1 J Rf G) 32 [some (.inr (.inr th)), some (.inl a0), some (.inl a1), some (.inl s.1), some (.inl s.2.1), z5_32] [] (0, 0) s.2.2 J Rf G) s := lp_go (fun s x32 hx hk32 => by
        obtain ⟨v3_32, v4_32, I_32⟩ := s
        intro z5_32
        have h : m_325_b32 th a0 a1 Rf G v3_32 v4_32 I_32 = some x32 := hx
        clear hx
        show ai_Go si_t (11, false, 0, cd_325) (ai_Cl si_t si_ms e) (sp_Q (some (.inl r)) I1 J Rf G) 32 [some (.inr (.inr th)), some (.inl a0), some (.inl a1), some (.inl v3_32), some (.inl v4_32), z5_32] [] (0, 0) I_32 J Rf G
        unfold m_325_b32 at h
        refine go_iload (pc' := 34) rfl rfl rfl ?_
        refine go_iload_n (pc' := 35) rfl rfl rfl ?_
        refine go_icmp_ge (pt := 107) (pc' := 38) rfl rfl rfl (fun h35 => ?_) (fun h35 => ?_)
        · replace h := o_t h35 h
          exact ex32_107 _ _ (some (.inl v4_32)) z5_32 (lp_exitE h hk32)
        · replace h := o_f h35 h
          refine go_iconst (pc' := 39) (v := (nI 0)) rfl rfl rfl ?_
          refine go_istore (pc' := 41) (lo' := [some (.inr (.inr th)), some (.inl a0), some (.inl a1), some (.inl v3_32), some (.inl v4_32), some (.inl (nI 0))]) rfl rfl rfl ?_
          obtain ⟨q41, hl41, hc41_74⟩ := o_s1E h
          have ex41_74 : ∀ (Ix_74 : ai_I) (z5_x74 : Option ai_V), Ix_74 = q41 → ai_Go si_t (11, false, 0, cd_325) (ai_Cl si_t si_ms e) (sp_Q (some (.inl r)) I1 J Rf G) 74 [some (.inr (.inr th)), some (.inl a0), some (.inl a1), some (.inl v3_32), some (.inl v4_32), z5_x74] [] (0, 0) Ix_74 J Rf G := by
            intro Ix_74 z5_x74 hq
            have h : m_325_x41_74 th a0 Rf G v3_32 v4_32 Ix_74 = some x32 := hc41_74 Ix_74 hq.symm
            unfold m_325_x41_74 at h
            refine go_aload_n (pc' := 75) rfl rfl rfl ?_
            refine go_iload_n (pc' := 76) rfl rfl rfl ?_
            refine go_aload_n (pc' := 77) rfl rfl rfl ?_
            refine go_iload_n (pc' := 78) rfl rfl rfl ?_
            refine go_aload_n (pc' := 79) rfl rfl rfl ?_
            refine go_iload_n (pc' := 80) rfl rfl rfl ?_
            obtain ⟨r_80, q_80, h⟩ := o_b1E h
            refine go_callV (pc' := 83) (B' := (0, 0)) (st' := [.inl r_80, .inl a0, .inr (.inr th), .inl a0, .inr (.inr th)]) rfl rfl (Or.inl (by decide)) rfl rfl hth (md_205 (by omega) hth q_80) rfl rfl rfl ?_
            obtain ⟨r_83, I_83, q_83, h⟩ := o_b2E h
            refine go_callV (pc' := 86) (B' := (0, 0)) (st' := [.inl r_83, .inl a0, .inr (.inr th)]) rfl rfl (Or.inl (by decide)) rfl rfl hth (md_269 (by omega) hth q_83) rfl rfl rfl ?_
            obtain ⟨r_86, q_86, h⟩ := o_b1E h
            refine go_callV (pc' := 89) (B' := (0, 0)) (st' := [.inl r_86]) rfl rfl (Or.inl (by decide)) rfl rfl hth (md_265 (by omega) hth q_86) rfl rfl rfl ?_
            refine go_aload_n (pc' := 90) rfl rfl rfl ?_
            refine go_iload_n (pc' := 91) rfl rfl rfl ?_
            obtain ⟨r_91, q_91, h⟩ := o_b1E h
            refine go_callV (pc' := 94) (B' := (0, 0)) (st' := [.inl r_91, .inl r_86]) rfl rfl (Or.inl (by decide)) rfl rfl hth (md_266 (by omega) hth q_91) rfl rfl rfl ?_
            refine go_icmp_ne (pt := 101) (pc' := 97) rfl rfl rfl (fun h94 => ?_) (fun h94 => ?_)
            · replace h := o_f h94 h
              obtain ⟨x4_101, ex4_101, h⟩ := o_b1E h
              refine go_iincE (pc' := 104) rfl rfl (y := (nI 1)) rfl ex4_101 (lo' := [some (.inr (.inr th)), some (.inl a0), some (.inl a1), some (.inl v3_32), some (.inl x4_101), z5_x74]) rfl rfl ?_
              refine go_goto (pc' := 32) rfl rfl ?_
              exact (lp_backE h hk32 z5_x74 :)
            · replace h := o_t (Decidable.of_not_not h94) h
              refine go_iload_n (pc' := 98) rfl rfl rfl ?_
              refine go_iconst (pc' := 99) (v := (nI 1)) rfl rfl rfl ?_
              refine go_iadd (pc' := 100) rfl rfl ?_
              obtain ⟨x3_100, ex3_100, h⟩ := o_b1E h
              refine go_ndI ex3_100 ?_
              refine go_istore_n (pc' := 101) (lo' := [some (.inr (.inr th)), some (.inl a0), some (.inl a1), some (.inl x3_100), some (.inl v4_32), z5_x74]) rfl rfl rfl ?_
              obtain ⟨x4_101, ex4_101, h⟩ := o_b1E h
              refine go_iincE (pc' := 104) rfl rfl (y := (nI 1)) rfl ex4_101 (lo' := [some (.inr (.inr th)), some (.inl a0), some (.inl a1), some (.inl x3_100), some (.inl x4_101), z5_x74]) rfl rfl ?_
              refine go_goto (pc' := 32) rfl rfl ?_
              exact (lp_backE h hk32 z5_x74 :)
          have lo41 : ∀ n s, lp (fun s => m_325_b41 th Rf G s.1 s.2) n s = some q41 → (fun s => ai_Go si_t (11, false, 0, cd_325) (ai_Cl si_t si_ms e) (sp_Q (some (.inl r)) I1 J Rf G) 41 [some (.inr (.inr th)), some (.inl a0), some (.inl a1), some (.inl v3_32), some (.inl v4_32), some (.inl s.1)] [] (0, 0) s.2 J Rf G) s := lp_go (fun s x41 hx hk41 => by
            obtain ⟨v5_41, I_41⟩ := s
            have h : m_325_b41 th Rf G v5_41 I_41 = some x41 := hx
            clear hx
            show ai_Go si_t (11, false, 0, cd_325) (ai_Cl si_t si_ms e) (sp_Q (some (.inl r)) I1 J Rf G) 41 [some (.inr (.inr th)), some (.inl a0), some (.inl a1), some (.inl v3_32), some (.inl v4_32), some (.inl v5_41)] [] (0, 0) I_41 J Rf G
            unfold m_325_b41 at h
            refine go_iload (pc' := 43) rfl rfl rfl ?_
            refine go_bipush (pc' := 45) (v := (nI 8)) rfl rfl rfl ?_
            refine go_icmp_ge (pt := 74) (pc' := 48) rfl rfl rfl (fun h45 => ?_) (fun h45 => ?_)
            · replace h := o_t h45 h
              exact ex41_74 _ (some (.inl v5_41)) (lp_exitE h hk41)
            · replace h := o_f h45 h
              refine go_aload_n (pc' := 49) rfl rfl rfl ?_
              refine go_getR (pc' := 52) rfl rfl hth rfl ?_
              refine go_sipush (pc' := 55) (v := (nI 1032)) rfl rfl rfl ?_
              refine go_iload (pc' := 57) rfl rfl rfl ?_
              refine go_iadd (pc' := 58) rfl rfl ?_
              refine go_aload_n (pc' := 59) rfl rfl rfl ?_
              refine go_bipush (pc' := 61) (v := (nI 21)) rfl rfl rfl ?_
              obtain ⟨r_61, I_61, q_61, h⟩ := o_b2E h
              refine go_callV (pc' := 64) (B' := (0, 0)) (st' := [.inl r_61, .inl ((nI 1032) + v5_41), .inr (.inr (Rf th 0))]) rfl rfl (Or.inl (by decide)) rfl rfl hth (md_322 (by omega) hth q_61) rfl rfl rfl ?_
              refine go_bipush (pc' := 66) (v := (nI 10)) rfl rfl rfl ?_
              refine go_isub (pc' := 67) rfl rfl ?_
              obtain ⟨g0, h⟩ := o_gE h
              obtain ⟨I_67, eI_67, h⟩ := o_b1E h
              refine go_iastore (pc' := 68) rfl (o_inK g0) (o_inB g0) rfl ?_
              refine go_ndMI eI_67 ?_
              obtain ⟨x5_68, ex5_68, h⟩ := o_b1E h
              refine go_iincE (pc' := 71) rfl rfl (y := (nI 1)) rfl ex5_68 (lo' := [some (.inr (.inr th)), some (.inl a0), some (.inl a1), some (.inl v3_32), some (.inl v4_32), some (.inl x5_68)]) rfl rfl ?_
              refine go_goto (pc' := 41) rfl rfl ?_
              exact (lp_backE h hk41 :))
          exact lo41 _ ((nI 0), I_32) hl41 )
      exact lo32 _ ((nI 0), (nI 0), I_24) hl32 none
    · replace h := o_t (Decidable.of_not_not h16) h
      refine go_iconst (pc' := 20) (v := (-1 : Int32)) rfl rfl rfl ?_
      cases h
      exact go_iret rfl (trivial) ⟨rfl, rfl, rfl, rfl, rfl⟩
/-- PricedBasesModel.seed(I)Z -/
def m_326 (th : Nat) (a0 : Int32) (I : ai_I) (Rf : ai_R) (G : ai_G) : Option (Int32 × ai_I) :=
  o_b1 (m_189 a0.toInt64 (0 : Int64) (65535 : Int64)) (fun r_6 => if r_6 = 0 then (some ((nI 0), I)) else (o_g (o_in G 13 (Rf th 0) (nI 1040)) (o_b1 (some (va_up I (Rf th 0) (va_up (I (Rf th 0)) (nI 1040).toNatClampNeg a0))) (fun I_22 => some ((nI 1), I_22)))))
theorem md_326 {d : Nat} {I : ai_I} {J : ai_J} {Rf : ai_R} {G : ai_G} {th : Nat} {a0 : Int32} {r : Int32} {I1 : ai_I} (hd : 2 ≤ d) (hth : G.1 th = 11) (h : m_326 th a0 I Rf G = some (r, I1)) : ai_Cl si_t si_ms d 326 [.inr (.inr th), .inl a0] I J Rf G (some (.inl r)) I1 J Rf G := by
  obtain ⟨e, rfl⟩ : ∃ e, d = e + 1 := ⟨d - 1, by omega⟩
  unfold m_326 at h
  refine sp_in (lo := [some (.inr (.inr th)), some (.inl a0)]) (B := (0, 0)) rfl (Nat.le_of_ble_eq_true rfl) rfl rfl ?_
  refine go_iload_n (pc' := 1) rfl rfl rfl ?_
  refine go_i2l (pc' := 2) rfl rfl ?_
  refine go_lconst (pc' := 3) (v := (0 : Int64)) rfl rfl rfl ?_
  refine go_ldc2_w (pc' := 6) (v := .inr (.inl (65535 : Int64))) rfl rfl rfl ?_
  obtain ⟨r_6, q_6, h⟩ := o_b1E h
  refine go_callS (pc' := 9) (B' := (0, 0)) (st' := [.inl r_6]) rfl rfl (Or.inl (by decide)) rfl rfl trivial (md_189 (by omega) q_6) rfl rfl rfl ?_
  refine go_if_ne (pt := 14) (pc' := 12) rfl rfl rfl (fun h9 => ?_) (fun h9 => ?_)
  · replace h := o_f h9 h
    refine go_aload_n (pc' := 15) rfl rfl rfl ?_
    refine go_getR (pc' := 18) rfl rfl hth rfl ?_
    refine go_sipush (pc' := 21) (v := (nI 1040)) rfl rfl rfl ?_
    refine go_iload_n (pc' := 22) rfl rfl rfl ?_
    obtain ⟨g0, h⟩ := o_gE h
    obtain ⟨I_22, eI_22, h⟩ := o_b1E h
    refine go_iastore (pc' := 23) rfl (o_inK g0) (o_inB g0) rfl ?_
    refine go_ndMI eI_22 ?_
    refine go_iconst (pc' := 24) (v := (nI 1)) rfl rfl rfl ?_
    cases h
    exact go_iret rfl (rfl) ⟨rfl, rfl, rfl, rfl, rfl⟩
  · replace h := o_t (Decidable.of_not_not h9) h
    refine go_iconst (pc' := 13) (v := (nI 0)) rfl rfl rfl ?_
    cases h
    exact go_iret rfl (rfl) ⟨rfl, rfl, rfl, rfl, rfl⟩
/-- PricedBasesModel.count(I)I -/
def m_327 (th : Nat) (a0 : Int32) (I : ai_I) (Rf : ai_R) (G : ai_G) : Option (Int32) :=
  if a0 = 0 then (some (I th 3)) else (if a0 = (nI 1) then (o_g (o_in G 13 (Rf th 0) (nI 1040)) (some (I (Rf th 0) (nI 1040).toNatClampNeg))) else (if a0 = (nI 2) then (o_b1 (m_204 th (nI 0) I Rf G) (fun r_34 => o_b1 (m_204 th (nI 1) I Rf G) (fun r_39 => o_b1 (m_204 th (nI 2) I Rf G) (fun r_45 => o_b1 (m_204 th (nI 3) I Rf G) (fun r_51 => some (((r_34 + r_39) + r_45) + r_51)))))) else (some (-1 : Int32))))
theorem md_327 {d : Nat} {I : ai_I} {J : ai_J} {Rf : ai_R} {G : ai_G} {th : Nat} {a0 : Int32} {r : Int32} (hd : 4 ≤ d) (hth : G.1 th = 11) (h : m_327 th a0 I Rf G = some r) : ai_Cl si_t si_ms d 327 [.inr (.inr th), .inl a0] I J Rf G (some (.inl r)) I J Rf G := by
  obtain ⟨e, rfl⟩ : ∃ e, d = e + 1 := ⟨d - 1, by omega⟩
  unfold m_327 at h
  refine sp_in (lo := [some (.inr (.inr th)), some (.inl a0)]) (B := (0, 0)) rfl (Nat.le_of_ble_eq_true rfl) rfl rfl ?_
  refine go_iload_n (pc' := 1) rfl rfl rfl ?_
  refine go_if_ne (pt := 11) (pc' := 4) rfl rfl rfl (fun h1 => ?_) (fun h1 => ?_)
  · replace h := o_f h1 h
    refine go_iload_n (pc' := 12) rfl rfl rfl ?_
    refine go_iconst (pc' := 13) (v := (nI 1)) rfl rfl rfl ?_
    refine go_icmp_ne (pt := 27) (pc' := 16) rfl rfl rfl (fun h13 => ?_) (fun h13 => ?_)
    · replace h := o_f h13 h
      refine go_iload_n (pc' := 28) rfl rfl rfl ?_
      refine go_iconst (pc' := 29) (v := (nI 2)) rfl rfl rfl ?_
      refine go_icmp_ne (pt := 58) (pc' := 32) rfl rfl rfl (fun h29 => ?_) (fun h29 => ?_)
      · replace h := o_f h29 h
        refine go_iconst (pc' := 59) (v := (-1 : Int32)) rfl rfl rfl ?_
        cases h
        exact go_iret rfl (trivial) ⟨rfl, rfl, rfl, rfl, rfl⟩
      · replace h := o_t (Decidable.of_not_not h29) h
        refine go_aload_n (pc' := 33) rfl rfl rfl ?_
        refine go_iconst (pc' := 34) (v := (nI 0)) rfl rfl rfl ?_
        obtain ⟨r_34, q_34, h⟩ := o_b1E h
        refine go_callV (pc' := 37) (B' := (0, 0)) (st' := [.inl r_34]) rfl rfl (Or.inl (by decide)) rfl rfl hth (md_204 (by omega) hth q_34) rfl rfl rfl ?_
        refine go_aload_n (pc' := 38) rfl rfl rfl ?_
        refine go_iconst (pc' := 39) (v := (nI 1)) rfl rfl rfl ?_
        obtain ⟨r_39, q_39, h⟩ := o_b1E h
        refine go_callV (pc' := 42) (B' := (0, 0)) (st' := [.inl r_39, .inl r_34]) rfl rfl (Or.inl (by decide)) rfl rfl hth (md_204 (by omega) hth q_39) rfl rfl rfl ?_
        refine go_iadd (pc' := 43) rfl rfl ?_
        refine go_aload_n (pc' := 44) rfl rfl rfl ?_
        refine go_iconst (pc' := 45) (v := (nI 2)) rfl rfl rfl ?_
        obtain ⟨r_45, q_45, h⟩ := o_b1E h
        refine go_callV (pc' := 48) (B' := (0, 0)) (st' := [.inl r_45, .inl (r_34 + r_39)]) rfl rfl (Or.inl (by decide)) rfl rfl hth (md_204 (by omega) hth q_45) rfl rfl rfl ?_
        refine go_iadd (pc' := 49) rfl rfl ?_
        refine go_aload_n (pc' := 50) rfl rfl rfl ?_
        refine go_iconst (pc' := 51) (v := (nI 3)) rfl rfl rfl ?_
        obtain ⟨r_51, q_51, h⟩ := o_b1E h
        refine go_callV (pc' := 54) (B' := (0, 0)) (st' := [.inl r_51, .inl ((r_34 + r_39) + r_45)]) rfl rfl (Or.inl (by decide)) rfl rfl hth (md_204 (by omega) hth q_51) rfl rfl rfl ?_
        refine go_iadd (pc' := 55) rfl rfl ?_
        refine go_goto (pc' := 59) rfl rfl ?_
        cases h
        exact go_iret rfl (trivial) ⟨rfl, rfl, rfl, rfl, rfl⟩
    · replace h := o_t (Decidable.of_not_not h13) h
      refine go_aload_n (pc' := 17) rfl rfl rfl ?_
      refine go_getR (pc' := 20) rfl rfl hth rfl ?_
      refine go_sipush (pc' := 23) (v := (nI 1040)) rfl rfl rfl ?_
      obtain ⟨g0, h⟩ := o_gE h
      refine go_iaload (pc' := 24) rfl (o_inK g0) (o_inB g0) rfl ?_
      refine go_goto (pc' := 59) rfl rfl ?_
      cases h
      exact go_iret rfl (trivial) ⟨rfl, rfl, rfl, rfl, rfl⟩
  · replace h := o_t (Decidable.of_not_not h1) h
    refine go_aload_n (pc' := 5) rfl rfl rfl ?_
    refine go_getI (pc' := 8) rfl rfl (by decide) (by decide) hth rfl ?_
    refine go_goto (pc' := 59) rfl rfl ?_
    cases h
    exact go_iret rfl (trivial) ⟨rfl, rfl, rfl, rfl, rfl⟩
/-- PricedBasesModel.keep()I -/
def m_328 (th : Nat) (I : ai_I) (Rf : ai_R) (G : ai_G) : Option (Int32 × ai_I) :=
  o_b1 (some (va_up I th (va_up (I th) 1 (nI 1)))) (fun I_2 => o_b1 (m_194 th (nI 0) (nI 1) I_2 Rf G) (fun I_8 => some ((nI 0), I_8)))
theorem md_328 {d : Nat} {I : ai_I} {J : ai_J} {Rf : ai_R} {G : ai_G} {th : Nat} {r : Int32} {I1 : ai_I} (hd : 2 ≤ d) (hth : G.1 th = 11) (h : m_328 th I Rf G = some (r, I1)) : ai_Cl si_t si_ms d 328 [.inr (.inr th)] I J Rf G (some (.inl r)) I1 J Rf G := by
  obtain ⟨e, rfl⟩ : ∃ e, d = e + 1 := ⟨d - 1, by omega⟩
  unfold m_328 at h
  refine sp_in (lo := [some (.inr (.inr th))]) (B := (0, 0)) rfl (Nat.le_of_ble_eq_true rfl) rfl rfl ?_
  refine go_aload_n (pc' := 1) rfl rfl rfl ?_
  refine go_iconst (pc' := 2) (v := (nI 1)) rfl rfl rfl ?_
  obtain ⟨I_2, eI_2, h⟩ := o_b1E h
  refine go_putZ (pc' := 5) rfl rfl (fun h => by cases h) hth rfl rfl ?_
  refine go_ndMI eI_2 ?_
  refine go_aload_n (pc' := 6) rfl rfl rfl ?_
  refine go_iconst (pc' := 7) (v := (nI 0)) rfl rfl rfl ?_
  refine go_iconst (pc' := 8) (v := (nI 1)) rfl rfl rfl ?_
  obtain ⟨I_8, q_8, h⟩ := o_b1E h
  refine go_callV (pc' := 11) (B' := (0, 0)) (st' := []) rfl rfl (Or.inl (by decide)) rfl rfl hth (md_194 (by omega) hth q_8) rfl rfl rfl ?_
  refine go_iconst (pc' := 12) (v := (nI 0)) rfl rfl rfl ?_
  cases h
  exact go_iret rfl (trivial) ⟨rfl, rfl, rfl, rfl, rfl⟩
/-- PricedBasesModel.undo()Z -/
def m_329 (th : Nat) (I : ai_I) (Rf : ai_R) (G : ai_G) : Option (Int32 × ai_I) :=
  if (I th 1) = 0 then (some ((nI 0), I)) else (o_b1 (m_194 th (nI 1) (nI 0) I Rf G) (fun I_12 => some ((nI 1), I_12)))
theorem md_329 {d : Nat} {I : ai_I} {J : ai_J} {Rf : ai_R} {G : ai_G} {th : Nat} {r : Int32} {I1 : ai_I} (hd : 2 ≤ d) (hth : G.1 th = 11) (h : m_329 th I Rf G = some (r, I1)) : ai_Cl si_t si_ms d 329 [.inr (.inr th)] I J Rf G (some (.inl r)) I1 J Rf G := by
  obtain ⟨e, rfl⟩ : ∃ e, d = e + 1 := ⟨d - 1, by omega⟩
  unfold m_329 at h
  refine sp_in (lo := [some (.inr (.inr th))]) (B := (0, 0)) rfl (Nat.le_of_ble_eq_true rfl) rfl rfl ?_
  refine go_aload_n (pc' := 1) rfl rfl rfl ?_
  refine go_getI (pc' := 4) rfl rfl (by decide) (by decide) hth rfl ?_
  refine go_if_ne (pt := 9) (pc' := 7) rfl rfl rfl (fun h4 => ?_) (fun h4 => ?_)
  · replace h := o_f h4 h
    refine go_aload_n (pc' := 10) rfl rfl rfl ?_
    refine go_iconst (pc' := 11) (v := (nI 1)) rfl rfl rfl ?_
    refine go_iconst (pc' := 12) (v := (nI 0)) rfl rfl rfl ?_
    obtain ⟨I_12, q_12, h⟩ := o_b1E h
    refine go_callV (pc' := 15) (B' := (0, 0)) (st' := []) rfl rfl (Or.inl (by decide)) rfl rfl hth (md_194 (by omega) hth q_12) rfl rfl rfl ?_
    refine go_iconst (pc' := 16) (v := (nI 1)) rfl rfl rfl ?_
    cases h
    exact go_iret rfl (rfl) ⟨rfl, rfl, rfl, rfl, rfl⟩
  · replace h := o_t (Decidable.of_not_not h4) h
    refine go_iconst (pc' := 8) (v := (nI 0)) rfl rfl rfl ?_
    cases h
    exact go_iret rfl (rfl) ⟨rfl, rfl, rfl, rfl, rfl⟩
def m_330_x29_60 (th : Nat) (I : ai_I) (w2_60 : Int32) : Option (Int32 × ai_I) :=
  o_b1 (some (va_up I th (va_up (I th) 3 (nI 0)))) (fun I_62 => some (w2_60, I_62))
def m_330_b29 (th : Nat) (I : ai_I) (Rf : ai_R) (G : ai_G) (v2_29 : Int32) (v3_29 : Int32) : Option ((Int32 × Int32) ⊕ Int32) :=
  if v3_29 < 0 then (some (Sum.inr v2_29)) else (o_g (o_in G 12 (Rf th 2) v3_29) (o_b1 (m_264 th (nI 0) v3_29 I Rf G) (fun r_46 => if ((I (Rf th 2) v3_29.toNatClampNeg) &&& (nI 255)) = r_46 then (o_b1 (some (v3_29 + (-1 : Int32))) (fun x3_54 => some (Sum.inl (v2_29, x3_54)))) else (o_b1 (some (v3_29 + (-1 : Int32))) (fun x3_54 => some (Sum.inl (v3_29, x3_54)))))))
/-- PricedBasesModel.check(I)I -/
def m_330 (th : Nat) (a0 : Int32) (I : ai_I) (Rf : ai_R) (G : ai_G) : Option (Int32 × ai_I) :=
  o_b1 (m_189 a0.toInt64 (0 : Int64) (70 : Int64)) (fun r_6 => if r_6 = 0 then (some ((-2 : Int32), I)) else (if a0 ≤ (I th 3) then (o_b1 (some (a0 - (nI 1))) (fun x3_28 => o_s1 (lp (fun s => m_330_b29 th I Rf G s.1 s.2) o_N ((-1 : Int32), x3_28)) (fun t => m_330_x29_60 th I t))) else (some ((-2 : Int32), I))))
theorem md_330 {d : Nat} {I : ai_I} {J : ai_J} {Rf : ai_R} {G : ai_G} {th : Nat} {a0 : Int32} {r : Int32} {I1 : ai_I} (hd : 4 ≤ d) (hth : G.1 th = 11) (h : m_330 th a0 I Rf G = some (r, I1)) : ai_Cl si_t si_ms d 330 [.inr (.inr th), .inl a0] I J Rf G (some (.inl r)) I1 J Rf G := by
  obtain ⟨e, rfl⟩ : ∃ e, d = e + 1 := ⟨d - 1, by omega⟩
  unfold m_330 at h
  refine sp_in (lo := [some (.inr (.inr th)), some (.inl a0), none, none]) (B := (0, 0)) rfl (Nat.le_of_ble_eq_true rfl) rfl rfl ?_
  refine go_iload_n (pc' := 1) rfl rfl rfl ?_
  refine go_i2l (pc' := 2) rfl rfl ?_
  refine go_lconst (pc' := 3) (v := (0 : Int64)) rfl rfl rfl ?_
  refine go_ldc2_w (pc' := 6) (v := .inr (.inl (70 : Int64))) rfl rfl rfl ?_
  obtain ⟨r_6, q_6, h⟩ := o_b1E h
  refine go_callS (pc' := 9) (B' := (0, 0)) (st' := [.inl r_6]) rfl rfl (Or.inl (by decide)) rfl rfl trivial (md_189 (by omega) q_6) rfl rfl rfl ?_
  refine go_if_eq (pt := 20) (pc' := 12) rfl rfl rfl (fun h9 => ?_) (fun h9 => ?_)
  · replace h := o_t h9 h
    refine go_bipush (pc' := 22) (v := (-2 : Int32)) rfl rfl rfl ?_
    cases h
    exact go_iret rfl (trivial) ⟨rfl, rfl, rfl, rfl, rfl⟩
  · replace h := o_f h9 h
    refine go_iload_n (pc' := 13) rfl rfl rfl ?_
    refine go_aload_n (pc' := 14) rfl rfl rfl ?_
    refine go_getI (pc' := 17) rfl rfl (by decide) (by decide) hth rfl ?_
    refine go_icmp_le (pt := 23) (pc' := 20) rfl rfl rfl (fun h17 => ?_) (fun h17 => ?_)
    · replace h := o_t h17 h
      refine go_iconst (pc' := 24) (v := (-1 : Int32)) rfl rfl rfl ?_
      refine go_istore_n (pc' := 25) (lo' := [some (.inr (.inr th)), some (.inl a0), some (.inl (-1 : Int32)), none]) rfl rfl rfl ?_
      refine go_iload_n (pc' := 26) rfl rfl rfl ?_
      refine go_iconst (pc' := 27) (v := (nI 1)) rfl rfl rfl ?_
      refine go_isub (pc' := 28) rfl rfl ?_
      obtain ⟨x3_28, ex3_28, h⟩ := o_b1E h
      refine go_ndI ex3_28 ?_
      refine go_istore_n (pc' := 29) (lo' := [some (.inr (.inr th)), some (.inl a0), some (.inl (-1 : Int32)), some (.inl x3_28)]) rfl rfl rfl ?_
      obtain ⟨q29, hl29, hc29_60⟩ := o_s1E h
      have ex29_60 : ∀ (w2_60 : Int32) (z3_x60 : Option ai_V), w2_60 = q29 → ai_Go si_t (11, false, 0, cd_330) (ai_Cl si_t si_ms e) (sp_Q (some (.inl r)) I1 J Rf G) 60 [some (.inr (.inr th)), some (.inl a0), some (.inl w2_60), z3_x60] [] (0, 0) I J Rf G := by
        intro w2_60 z3_x60 hq
        have h : m_330_x29_60 th I w2_60 = some (r, I1) := hc29_60 w2_60 hq.symm
        unfold m_330_x29_60 at h
        refine go_aload_n (pc' := 61) rfl rfl rfl ?_
        refine go_iconst (pc' := 62) (v := (nI 0)) rfl rfl rfl ?_
        obtain ⟨I_62, eI_62, h⟩ := o_b1E h
        refine go_putI (pc' := 65) rfl rfl (fun h => by cases h) hth rfl ?_
        refine go_ndMI eI_62 ?_
        refine go_iload_n (pc' := 66) rfl rfl rfl ?_
        cases h
        exact go_iret rfl (trivial) ⟨rfl, rfl, rfl, rfl, rfl⟩
      have lo29 : ∀ n s, lp (fun s => m_330_b29 th I Rf G s.1 s.2) n s = some q29 → (fun s => ai_Go si_t (11, false, 0, cd_330) (ai_Cl si_t si_ms e) (sp_Q (some (.inl r)) I1 J Rf G) 29 [some (.inr (.inr th)), some (.inl a0), some (.inl s.1), some (.inl s.2)] [] (0, 0) I J Rf G) s := lp_go (fun s x29 hx hk29 => by
        obtain ⟨v2_29, v3_29⟩ := s
        have h : m_330_b29 th I Rf G v2_29 v3_29 = some x29 := hx
        clear hx
        show ai_Go si_t (11, false, 0, cd_330) (ai_Cl si_t si_ms e) (sp_Q (some (.inl r)) I1 J Rf G) 29 [some (.inr (.inr th)), some (.inl a0), some (.inl v2_29), some (.inl v3_29)] [] (0, 0) I J Rf G
        unfold m_330_b29 at h
        refine go_iload_n (pc' := 30) rfl rfl rfl ?_
        refine go_if_lt (pt := 60) (pc' := 33) rfl rfl rfl (fun h30 => ?_) (fun h30 => ?_)
        · replace h := o_t h30 h
          exact ex29_60 _ (some (.inl v3_29)) (lp_exitE h hk29)
        · replace h := o_f h30 h
          refine go_aload_n (pc' := 34) rfl rfl rfl ?_
          refine go_getR (pc' := 37) rfl rfl hth rfl ?_
          refine go_iload_n (pc' := 38) rfl rfl rfl ?_
          obtain ⟨g0, h⟩ := o_gE h
          refine go_baload (pc' := 39) rfl (o_inK g0) (o_inB g0) rfl ?_
          refine go_sipush (pc' := 42) (v := (nI 255)) rfl rfl rfl ?_
          refine go_iand (pc' := 43) rfl rfl ?_
          refine go_aload_n (pc' := 44) rfl rfl rfl ?_
          refine go_iconst (pc' := 45) (v := (nI 0)) rfl rfl rfl ?_
          refine go_iload_n (pc' := 46) rfl rfl rfl ?_
          obtain ⟨r_46, q_46, h⟩ := o_b1E h
          refine go_callV (pc' := 49) (B' := (0, 0)) (st' := [.inl r_46, .inl ((I (Rf th 2) v3_29.toNatClampNeg) &&& (nI 255))]) rfl rfl (Or.inl (by decide)) rfl rfl hth (md_264 (by omega) hth q_46) rfl rfl rfl ?_
          refine go_icmp_eq (pt := 54) (pc' := 52) rfl rfl rfl (fun h49 => ?_) (fun h49 => ?_)
          · replace h := o_t h49 h
            obtain ⟨x3_54, ex3_54, h⟩ := o_b1E h
            refine go_iincE (pc' := 57) rfl rfl (y := (-1 : Int32)) rfl ex3_54 (lo' := [some (.inr (.inr th)), some (.inl a0), some (.inl v2_29), some (.inl x3_54)]) rfl rfl ?_
            refine go_goto (pc' := 29) rfl rfl ?_
            exact (lp_backE h hk29 :)
          · replace h := o_f h49 h
            refine go_iload_n (pc' := 53) rfl rfl rfl ?_
            refine go_istore_n (pc' := 54) (lo' := [some (.inr (.inr th)), some (.inl a0), some (.inl v3_29), some (.inl v3_29)]) rfl rfl rfl ?_
            obtain ⟨x3_54, ex3_54, h⟩ := o_b1E h
            refine go_iincE (pc' := 57) rfl rfl (y := (-1 : Int32)) rfl ex3_54 (lo' := [some (.inr (.inr th)), some (.inl a0), some (.inl v3_29), some (.inl x3_54)]) rfl rfl ?_
            refine go_goto (pc' := 29) rfl rfl ?_
            exact (lp_backE h hk29 :))
      exact lo29 _ ((-1 : Int32), x3_28) hl29 
    · replace h := o_f h17 h
      refine go_bipush (pc' := 22) (v := (-2 : Int32)) rfl rfl rfl ?_
      cases h
      exact go_iret rfl (trivial) ⟨rfl, rfl, rfl, rfl, rfl⟩
