/-! Models of methods and their proofs, piece 13. Printed by wip/whole/pr10.py. -/
def m_239_j57 (th : Nat) (a0 : Int32) (a1 : Int32) (Rf : ai_R) (G : ai_G) (I_57 : ai_I) : Option (ai_I) :=
  o_g (o_in G 13 (Rf th 0) (nI 1041)) (o_b1 (some ((nI 1042) + ((nI 4) * (I_57 (Rf th 0) (nI 1041).toNatClampNeg)))) (fun x3_71 => o_g (o_in G 13 (Rf th 0) x3_71) (o_b1 (some (va_up I_57 (Rf th 0) (va_up (I_57 (Rf th 0)) x3_71.toNatClampNeg a0))) (fun I_78 => o_g (o_in G 13 (Rf th 0) (x3_71 + (nI 1))) (o_b1 (some (va_up I_78 (Rf th 0) (va_up (I_78 (Rf th 0)) (x3_71 + (nI 1)).toNatClampNeg a1))) (fun I_87 => o_b1 (m_204 th a0 I_87 Rf G) (fun r_97 => o_g (o_in G 13 (Rf th 0) (x3_71 + (nI 2))) (o_b1 (some (va_up I_87 (Rf th 0) (va_up (I_87 (Rf th 0)) (x3_71 + (nI 2)).toNatClampNeg r_97))) (fun I_100 => o_b1 (m_195 th a0 I_100 Rf G) (fun r_110 => o_g (o_in G 13 (Rf th 0) (x3_71 + (nI 3))) (o_b1 (some (va_up I_100 (Rf th 0) (va_up (I_100 (Rf th 0)) (x3_71 + (nI 3)).toNatClampNeg r_110))) (fun I_113 => o_g (o_in G 13 (Rf th 0) (nI 1041)) (o_g (o_in G 13 (Rf th 0) (nI 1041)) (o_b1 (some (va_up I_113 (Rf th 0) (va_up (I_113 (Rf th 0)) (nI 1041).toNatClampNeg ((I_113 (Rf th 0) (nI 1041).toNatClampNeg) + (nI 1))))) (fun I_131 => some I_131)))))))))))))))
def m_239_x15_47 (th : Nat) (a0 : Int32) (a1 : Int32) (Rf : ai_R) (G : ai_G) (Ix_47 : ai_I) : Option (ai_I) :=
  o_g (o_in G 13 (Rf th 0) (nI 1041)) (o_b1 (some (va_up Ix_47 (Rf th 0) (va_up (Ix_47 (Rf th 0)) (nI 1041).toNatClampNeg (nI 19)))) (fun I_56 => m_239_j57 th a0 a1 Rf G I_56))
def m_239_b15 (th : Nat) (Rf : ai_R) (G : ai_G) (v3_15 : Int32) (I_15 : ai_I) : Option ((Int32 × ai_I) ⊕ ai_I) :=
  if (nI 76) ≤ v3_15 then (some (Sum.inr I_15)) else (o_g (o_in G 13 (Rf th 0) ((nI 1046) + v3_15)) (o_g (o_in G 13 (Rf th 0) ((nI 1042) + v3_15)) (o_b1 (some (va_up I_15 (Rf th 0) (va_up (I_15 (Rf th 0)) ((nI 1042) + v3_15).toNatClampNeg (I_15 (Rf th 0) ((nI 1046) + v3_15).toNatClampNeg)))) (fun I_40 => o_b1 (some (v3_15 + (nI 1))) (fun x3_41 => some (Sum.inl (x3_41, I_40)))))))
/-- PricedBasesModel.notesPast(II)V -/
def m_239 (th : Nat) (a0 : Int32) (a1 : Int32) (I : ai_I) (Rf : ai_R) (G : ai_G) : Option (ai_I) :=
  o_g (o_in G 13 (Rf th 0) (nI 1041)) (if (I (Rf th 0) (nI 1041).toNatClampNeg) = (nI 20) then (o_s1 (lp (fun s => m_239_b15 th Rf G s.1 s.2) o_N ((nI 0), I)) (fun t => m_239_x15_47 th a0 a1 Rf G t)) else (m_239_j57 th a0 a1 Rf G I))
theorem md_239 {d : Nat} {I : ai_I} {J : ai_J} {Rf : ai_R} {G : ai_G} {th : Nat} {a0 : Int32} {a1 : Int32} {I1 : ai_I} (hd : 4 ≤ d) (hth : G.1 th = 11) (h : m_239 th a0 a1 I Rf G = some I1) : ai_Cl si_t si_ms d 239 [.inr (.inr th), .inl a0, .inl a1] I J Rf G none I1 J Rf G := by
  obtain ⟨e, rfl⟩ : ∃ e, d = e + 1 := ⟨d - 1, by omega⟩
  unfold m_239 at h
  refine sp_in (lo := [some (.inr (.inr th)), some (.inl a0), some (.inl a1), none]) (B := (0, 0)) rfl (Nat.le_of_ble_eq_true rfl) rfl rfl ?_
  refine go_aload_n (pc' := 1) rfl rfl rfl ?_
  refine go_getR (pc' := 4) rfl rfl hth rfl ?_
  refine go_sipush (pc' := 7) (v := (nI 1041)) rfl rfl rfl ?_
  obtain ⟨g0, h⟩ := o_gE h
  refine go_iaload (pc' := 8) rfl (o_inK g0) (o_inB g0) rfl ?_
  refine go_bipush (pc' := 10) (v := (nI 20)) rfl rfl rfl ?_
  have jn57 : ∀ (I_57 : ai_I) (z3_57 : Option ai_V), m_239_j57 th a0 a1 Rf G I_57 = some I1 → ai_Go si_t (11, false, 9, cd_239) (ai_Cl si_t si_ms e) (sp_Q none I1 J Rf G) 57 [some (.inr (.inr th)), some (.inl a0), some (.inl a1), z3_57] [] (0, 0) I_57 J Rf G := by
    intro I_57 z3_57 h
    unfold m_239_j57 at h
    refine go_sipush (pc' := 60) (v := (nI 1042)) rfl rfl rfl ?_
    refine go_iconst (pc' := 61) (v := (nI 4)) rfl rfl rfl ?_
    refine go_aload_n (pc' := 62) rfl rfl rfl ?_
    refine go_getR (pc' := 65) rfl rfl hth rfl ?_
    refine go_sipush (pc' := 68) (v := (nI 1041)) rfl rfl rfl ?_
    obtain ⟨g1, h⟩ := o_gE h
    refine go_iaload (pc' := 69) rfl (o_inK g1) (o_inB g1) rfl ?_
    refine go_imul (pc' := 70) rfl rfl ?_
    refine go_iadd (pc' := 71) rfl rfl ?_
    obtain ⟨x3_71, ex3_71, h⟩ := o_b1E h
    refine go_ndI ex3_71 ?_
    refine go_istore_n (pc' := 72) (lo' := [some (.inr (.inr th)), some (.inl a0), some (.inl a1), some (.inl x3_71)]) rfl rfl rfl ?_
    refine go_aload_n (pc' := 73) rfl rfl rfl ?_
    refine go_getR (pc' := 76) rfl rfl hth rfl ?_
    refine go_iload_n (pc' := 77) rfl rfl rfl ?_
    refine go_iload_n (pc' := 78) rfl rfl rfl ?_
    obtain ⟨g2, h⟩ := o_gE h
    obtain ⟨I_78, eI_78, h⟩ := o_b1E h
    refine go_iastore (pc' := 79) rfl (o_inK g2) (o_inB g2) rfl ?_
    refine go_ndMI eI_78 ?_
    refine go_aload_n (pc' := 80) rfl rfl rfl ?_
    refine go_getR (pc' := 83) rfl rfl hth rfl ?_
    refine go_iload_n (pc' := 84) rfl rfl rfl ?_
    refine go_iconst (pc' := 85) (v := (nI 1)) rfl rfl rfl ?_
    refine go_iadd (pc' := 86) rfl rfl ?_
    refine go_iload_n (pc' := 87) rfl rfl rfl ?_
    obtain ⟨g3, h⟩ := o_gE h
    obtain ⟨I_87, eI_87, h⟩ := o_b1E h
    refine go_iastore (pc' := 88) rfl (o_inK g3) (o_inB g3) rfl ?_
    refine go_ndMI eI_87 ?_
    refine go_aload_n (pc' := 89) rfl rfl rfl ?_
    refine go_getR (pc' := 92) rfl rfl hth rfl ?_
    refine go_iload_n (pc' := 93) rfl rfl rfl ?_
    refine go_iconst (pc' := 94) (v := (nI 2)) rfl rfl rfl ?_
    refine go_iadd (pc' := 95) rfl rfl ?_
    refine go_aload_n (pc' := 96) rfl rfl rfl ?_
    refine go_iload_n (pc' := 97) rfl rfl rfl ?_
    obtain ⟨r_97, q_97, h⟩ := o_b1E h
    refine go_callV (pc' := 100) (B' := (0, 0)) (st' := [.inl r_97, .inl (x3_71 + (nI 2)), .inr (.inr (Rf th 0))]) rfl rfl (Or.inl (by decide)) rfl rfl hth (md_204 (by omega) hth q_97) rfl rfl rfl ?_
    obtain ⟨g4, h⟩ := o_gE h
    obtain ⟨I_100, eI_100, h⟩ := o_b1E h
    refine go_iastore (pc' := 101) rfl (o_inK g4) (o_inB g4) rfl ?_
    refine go_ndMI eI_100 ?_
    refine go_aload_n (pc' := 102) rfl rfl rfl ?_
    refine go_getR (pc' := 105) rfl rfl hth rfl ?_
    refine go_iload_n (pc' := 106) rfl rfl rfl ?_
    refine go_iconst (pc' := 107) (v := (nI 3)) rfl rfl rfl ?_
    refine go_iadd (pc' := 108) rfl rfl ?_
    refine go_aload_n (pc' := 109) rfl rfl rfl ?_
    refine go_iload_n (pc' := 110) rfl rfl rfl ?_
    obtain ⟨r_110, q_110, h⟩ := o_b1E h
    refine go_callV (pc' := 113) (B' := (0, 0)) (st' := [.inl r_110, .inl (x3_71 + (nI 3)), .inr (.inr (Rf th 0))]) rfl rfl (Or.inl (by decide)) rfl rfl hth (md_195 (by omega) hth q_110) rfl rfl rfl ?_
    obtain ⟨g5, h⟩ := o_gE h
    obtain ⟨I_113, eI_113, h⟩ := o_b1E h
    refine go_iastore (pc' := 114) rfl (o_inK g5) (o_inB g5) rfl ?_
    refine go_ndMI eI_113 ?_
    refine go_aload_n (pc' := 115) rfl rfl rfl ?_
    refine go_getR (pc' := 118) rfl rfl hth rfl ?_
    refine go_sipush (pc' := 121) (v := (nI 1041)) rfl rfl rfl ?_
    refine go_aload_n (pc' := 122) rfl rfl rfl ?_
    refine go_getR (pc' := 125) rfl rfl hth rfl ?_
    refine go_sipush (pc' := 128) (v := (nI 1041)) rfl rfl rfl ?_
    obtain ⟨g6, h⟩ := o_gE h
    refine go_iaload (pc' := 129) rfl (o_inK g6) (o_inB g6) rfl ?_
    refine go_iconst (pc' := 130) (v := (nI 1)) rfl rfl rfl ?_
    refine go_iadd (pc' := 131) rfl rfl ?_
    obtain ⟨g7, h⟩ := o_gE h
    obtain ⟨I_131, eI_131, h⟩ := o_b1E h
    refine go_iastore (pc' := 132) rfl (o_inK g7) (o_inB g7) rfl ?_
    refine go_ndMI eI_131 ?_
    cases h
    exact go_vret rfl (rfl) ⟨rfl, rfl, rfl, rfl, rfl⟩
  refine go_icmp_ne (pt := 57) (pc' := 13) rfl rfl rfl (fun h10 => ?_) (fun h10 => ?_)
  · replace h := o_f h10 h
    exact jn57 I none h
  · replace h := o_t (Decidable.of_not_not h10) h
    refine go_iconst (pc' := 14) (v := (nI 0)) rfl rfl rfl ?_
    refine go_istore_n (pc' := 15) (lo' := [some (.inr (.inr th)), some (.inl a0), some (.inl a1), some (.inl (nI 0))]) rfl rfl rfl ?_
    obtain ⟨q15, hl15, hc15_47⟩ := o_s1E h
    have ex15_47 : ∀ (Ix_47 : ai_I) (z3_x47 : Option ai_V), Ix_47 = q15 → ai_Go si_t (11, false, 9, cd_239) (ai_Cl si_t si_ms e) (sp_Q none I1 J Rf G) 47 [some (.inr (.inr th)), some (.inl a0), some (.inl a1), z3_x47] [] (0, 0) Ix_47 J Rf G := by
      intro Ix_47 z3_x47 hq
      have h : m_239_x15_47 th a0 a1 Rf G Ix_47 = some I1 := hc15_47 Ix_47 hq.symm
      unfold m_239_x15_47 at h
      refine go_aload_n (pc' := 48) rfl rfl rfl ?_
      refine go_getR (pc' := 51) rfl rfl hth rfl ?_
      refine go_sipush (pc' := 54) (v := (nI 1041)) rfl rfl rfl ?_
      refine go_bipush (pc' := 56) (v := (nI 19)) rfl rfl rfl ?_
      obtain ⟨g8, h⟩ := o_gE h
      obtain ⟨I_56, eI_56, h⟩ := o_b1E h
      refine go_iastore (pc' := 57) rfl (o_inK g8) (o_inB g8) rfl ?_
      refine go_ndMI eI_56 ?_
      exact jn57 I_56 z3_x47 h
    have lo15 : ∀ n s, lp (fun s => m_239_b15 th Rf G s.1 s.2) n s = some q15 → (fun s => ai_Go si_t (11, false, 9, cd_239) (ai_Cl si_t si_ms e) (sp_Q none I1 J Rf G) 15 [some (.inr (.inr th)), some (.inl a0), some (.inl a1), some (.inl s.1)] [] (0, 0) s.2 J Rf G) s := lp_go (fun s x15 hx hk15 => by
      obtain ⟨v3_15, I_15⟩ := s
      have h : m_239_b15 th Rf G v3_15 I_15 = some x15 := hx
      clear hx
      show ai_Go si_t (11, false, 9, cd_239) (ai_Cl si_t si_ms e) (sp_Q none I1 J Rf G) 15 [some (.inr (.inr th)), some (.inl a0), some (.inl a1), some (.inl v3_15)] [] (0, 0) I_15 J Rf G
      unfold m_239_b15 at h
      refine go_iload_n (pc' := 16) rfl rfl rfl ?_
      refine go_bipush (pc' := 18) (v := (nI 76)) rfl rfl rfl ?_
      refine go_icmp_ge (pt := 47) (pc' := 21) rfl rfl rfl (fun h18 => ?_) (fun h18 => ?_)
      · replace h := o_t h18 h
        exact ex15_47 _ (some (.inl v3_15)) (lp_exitE h hk15)
      · replace h := o_f h18 h
        refine go_aload_n (pc' := 22) rfl rfl rfl ?_
        refine go_getR (pc' := 25) rfl rfl hth rfl ?_
        refine go_sipush (pc' := 28) (v := (nI 1042)) rfl rfl rfl ?_
        refine go_iload_n (pc' := 29) rfl rfl rfl ?_
        refine go_iadd (pc' := 30) rfl rfl ?_
        refine go_aload_n (pc' := 31) rfl rfl rfl ?_
        refine go_getR (pc' := 34) rfl rfl hth rfl ?_
        refine go_sipush (pc' := 37) (v := (nI 1046)) rfl rfl rfl ?_
        refine go_iload_n (pc' := 38) rfl rfl rfl ?_
        refine go_iadd (pc' := 39) rfl rfl ?_
        obtain ⟨g9, h⟩ := o_gE h
        refine go_iaload (pc' := 40) rfl (o_inK g9) (o_inB g9) rfl ?_
        obtain ⟨g10, h⟩ := o_gE h
        obtain ⟨I_40, eI_40, h⟩ := o_b1E h
        refine go_iastore (pc' := 41) rfl (o_inK g10) (o_inB g10) rfl ?_
        refine go_ndMI eI_40 ?_
        obtain ⟨x3_41, ex3_41, h⟩ := o_b1E h
        refine go_iincE (pc' := 44) rfl rfl (y := (nI 1)) rfl ex3_41 (lo' := [some (.inr (.inr th)), some (.inl a0), some (.inl a1), some (.inl x3_41)]) rfl rfl ?_
        refine go_goto (pc' := 15) rfl rfl ?_
        exact (lp_backE h hk15 :))
    exact lo15 _ ((nI 0), I) hl15 
def m_221_x20_45 (Ix_45 : ai_I) : Option (ai_I) :=
  some Ix_45
def m_221_b20 (th : Nat) (a0 : Int32) (Rf : ai_R) (G : ai_G) (v2_20 : Int32) (I_20 : ai_I) : Option ((Int32 × ai_I) ⊕ ai_I) :=
  if (nI 256) ≤ v2_20 then (some (Sum.inr I_20)) else (o_b1 (m_198 th a0 v2_20 I_20 Rf G) (fun r_35 => o_g (o_in G 13 (Rf th 16) v2_20) (o_b1 (some (va_up I_20 (Rf th 16) (va_up (I_20 (Rf th 16)) v2_20.toNatClampNeg r_35))) (fun I_38 => o_b1 (some (v2_20 + (nI 1))) (fun x2_39 => some (Sum.inl (x2_39, I_38)))))))
/-- PricedBasesModel.takes(I)V -/
def m_221 (th : Nat) (a0 : Int32) (I : ai_I) (Rf : ai_R) (G : ai_G) : Option (ai_I) :=
  o_b1 (m_195 th a0 I Rf G) (fun r_3 => o_b1 (some (va_up I th (va_up (I th) 18 r_3))) (fun I_6 => o_b1 (m_196 th a0 I_6 Rf G) (fun r_12 => o_b1 (some (va_up I_6 th (va_up (I_6 th) 19 r_12))) (fun I_15 => o_s1 (lp (fun s => m_221_b20 th a0 Rf G s.1 s.2) o_N ((nI 0), I_15)) (fun t => m_221_x20_45 t)))))
theorem md_221 {d : Nat} {I : ai_I} {J : ai_J} {Rf : ai_R} {G : ai_G} {th : Nat} {a0 : Int32} {I1 : ai_I} (hd : 2 ≤ d) (hth : G.1 th = 11) (h : m_221 th a0 I Rf G = some I1) : ai_Cl si_t si_ms d 221 [.inr (.inr th), .inl a0] I J Rf G none I1 J Rf G := by
  obtain ⟨e, rfl⟩ : ∃ e, d = e + 1 := ⟨d - 1, by omega⟩
  unfold m_221 at h
  refine sp_in (lo := [some (.inr (.inr th)), some (.inl a0), none]) (B := (0, 0)) rfl (Nat.le_of_ble_eq_true rfl) rfl rfl ?_
  refine go_aload_n (pc' := 1) rfl rfl rfl ?_
  refine go_aload_n (pc' := 2) rfl rfl rfl ?_
  refine go_iload_n (pc' := 3) rfl rfl rfl ?_
  obtain ⟨r_3, q_3, h⟩ := o_b1E h
  refine go_callV (pc' := 6) (B' := (0, 0)) (st' := [.inl r_3, .inr (.inr th)]) rfl rfl (Or.inl (by decide)) rfl rfl hth (md_195 (by omega) hth q_3) rfl rfl rfl ?_
  obtain ⟨I_6, eI_6, h⟩ := o_b1E h
  refine go_putI (pc' := 9) rfl rfl (fun h => by cases h) hth rfl ?_
  refine go_ndMI eI_6 ?_
  refine go_aload_n (pc' := 10) rfl rfl rfl ?_
  refine go_aload_n (pc' := 11) rfl rfl rfl ?_
  refine go_iload_n (pc' := 12) rfl rfl rfl ?_
  obtain ⟨r_12, q_12, h⟩ := o_b1E h
  refine go_callV (pc' := 15) (B' := (0, 0)) (st' := [.inl r_12, .inr (.inr th)]) rfl rfl (Or.inl (by decide)) rfl rfl hth (md_196 (by omega) hth q_12) rfl rfl rfl ?_
  obtain ⟨I_15, eI_15, h⟩ := o_b1E h
  refine go_putI (pc' := 18) rfl rfl (fun h => by cases h) hth rfl ?_
  refine go_ndMI eI_15 ?_
  refine go_iconst (pc' := 19) (v := (nI 0)) rfl rfl rfl ?_
  refine go_istore_n (pc' := 20) (lo' := [some (.inr (.inr th)), some (.inl a0), some (.inl (nI 0))]) rfl rfl rfl ?_
  obtain ⟨q20, hl20, hc20_45⟩ := o_s1E h
  have ex20_45 : ∀ (Ix_45 : ai_I) (z2_x45 : Option ai_V), Ix_45 = q20 → ai_Go si_t (11, false, 9, cd_221) (ai_Cl si_t si_ms e) (sp_Q none I1 J Rf G) 45 [some (.inr (.inr th)), some (.inl a0), z2_x45] [] (0, 0) Ix_45 J Rf G := by
    intro Ix_45 z2_x45 hq
    have h : m_221_x20_45 Ix_45 = some I1 := hc20_45 Ix_45 hq.symm
    unfold m_221_x20_45 at h
    cases h
    exact go_vret rfl (rfl) ⟨rfl, rfl, rfl, rfl, rfl⟩
  have lo20 : ∀ n s, lp (fun s => m_221_b20 th a0 Rf G s.1 s.2) n s = some q20 → (fun s => ai_Go si_t (11, false, 9, cd_221) (ai_Cl si_t si_ms e) (sp_Q none I1 J Rf G) 20 [some (.inr (.inr th)), some (.inl a0), some (.inl s.1)] [] (0, 0) s.2 J Rf G) s := lp_go (fun s x20 hx hk20 => by
    obtain ⟨v2_20, I_20⟩ := s
    have h : m_221_b20 th a0 Rf G v2_20 I_20 = some x20 := hx
    clear hx
    show ai_Go si_t (11, false, 9, cd_221) (ai_Cl si_t si_ms e) (sp_Q none I1 J Rf G) 20 [some (.inr (.inr th)), some (.inl a0), some (.inl v2_20)] [] (0, 0) I_20 J Rf G
    unfold m_221_b20 at h
    refine go_iload_n (pc' := 21) rfl rfl rfl ?_
    refine go_sipush (pc' := 24) (v := (nI 256)) rfl rfl rfl ?_
    refine go_icmp_ge (pt := 45) (pc' := 27) rfl rfl rfl (fun h24 => ?_) (fun h24 => ?_)
    · replace h := o_t h24 h
      exact ex20_45 _ (some (.inl v2_20)) (lp_exitE h hk20)
    · replace h := o_f h24 h
      refine go_aload_n (pc' := 28) rfl rfl rfl ?_
      refine go_getR (pc' := 31) rfl rfl hth rfl ?_
      refine go_iload_n (pc' := 32) rfl rfl rfl ?_
      refine go_aload_n (pc' := 33) rfl rfl rfl ?_
      refine go_iload_n (pc' := 34) rfl rfl rfl ?_
      refine go_iload_n (pc' := 35) rfl rfl rfl ?_
      obtain ⟨r_35, q_35, h⟩ := o_b1E h
      refine go_callV (pc' := 38) (B' := (0, 0)) (st' := [.inl r_35, .inl v2_20, .inr (.inr (Rf th 16))]) rfl rfl (Or.inl (by decide)) rfl rfl hth (md_198 (by omega) hth q_35) rfl rfl rfl ?_
      obtain ⟨g0, h⟩ := o_gE h
      obtain ⟨I_38, eI_38, h⟩ := o_b1E h
      refine go_iastore (pc' := 39) rfl (o_inK g0) (o_inB g0) rfl ?_
      refine go_ndMI eI_38 ?_
      obtain ⟨x2_39, ex2_39, h⟩ := o_b1E h
      refine go_iincE (pc' := 42) rfl rfl (y := (nI 1)) rfl ex2_39 (lo' := [some (.inr (.inr th)), some (.inl a0), some (.inl x2_39)]) rfl rfl ?_
      refine go_goto (pc' := 20) rfl rfl ?_
      exact (lp_backE h hk20 :))
  exact lo20 _ ((nI 0), I_15) hl20 
def m_219_x12_33 (Ix_33 : ai_I) : Option (ai_I) :=
  some Ix_33
def m_219_b12 (th : Nat) (Rf : ai_R) (G : ai_G) (v3_12 : Int32) (I_12 : ai_I) : Option ((Int32 × ai_I) ⊕ ai_I) :=
  if (nI 256) ≤ v3_12 then (some (Sum.inr I_12)) else (o_g (o_in G 13 (Rf th 16) v3_12) (o_b1 (some (va_up I_12 (Rf th 16) (va_up (I_12 (Rf th 16)) v3_12.toNatClampNeg (-2147483648 : Int32)))) (fun I_26 => o_b1 (some (v3_12 + (nI 1))) (fun x3_27 => some (Sum.inl (x3_27, I_26))))))
/-- PricedBasesModel.empties(II)V -/
def m_219 (th : Nat) (a0 : Int32) (a1 : Int32) (I : ai_I) (Rf : ai_R) (G : ai_G) : Option (ai_I) :=
  o_b1 (some (va_up I th (va_up (I th) 18 a0))) (fun I_2 => o_b1 (some (va_up I_2 th (va_up (I_2 th) 19 a1))) (fun I_7 => o_s1 (lp (fun s => m_219_b12 th Rf G s.1 s.2) o_N ((nI 0), I_7)) (fun t => m_219_x12_33 t)))
theorem md_219 {d : Nat} {I : ai_I} {J : ai_J} {Rf : ai_R} {G : ai_G} {th : Nat} {a0 : Int32} {a1 : Int32} {I1 : ai_I} (hd : 1 ≤ d) (hth : G.1 th = 11) (h : m_219 th a0 a1 I Rf G = some I1) : ai_Cl si_t si_ms d 219 [.inr (.inr th), .inl a0, .inl a1] I J Rf G none I1 J Rf G := by
  obtain ⟨e, rfl⟩ : ∃ e, d = e + 1 := ⟨d - 1, by omega⟩
  unfold m_219 at h
  refine sp_in (lo := [some (.inr (.inr th)), some (.inl a0), some (.inl a1), none]) (B := (0, 0)) rfl (Nat.le_of_ble_eq_true rfl) rfl rfl ?_
  refine go_aload_n (pc' := 1) rfl rfl rfl ?_
  refine go_iload_n (pc' := 2) rfl rfl rfl ?_
  obtain ⟨I_2, eI_2, h⟩ := o_b1E h
  refine go_putI (pc' := 5) rfl rfl (fun h => by cases h) hth rfl ?_
  refine go_ndMI eI_2 ?_
  refine go_aload_n (pc' := 6) rfl rfl rfl ?_
  refine go_iload_n (pc' := 7) rfl rfl rfl ?_
  obtain ⟨I_7, eI_7, h⟩ := o_b1E h
  refine go_putI (pc' := 10) rfl rfl (fun h => by cases h) hth rfl ?_
  refine go_ndMI eI_7 ?_
  refine go_iconst (pc' := 11) (v := (nI 0)) rfl rfl rfl ?_
  refine go_istore_n (pc' := 12) (lo' := [some (.inr (.inr th)), some (.inl a0), some (.inl a1), some (.inl (nI 0))]) rfl rfl rfl ?_
  obtain ⟨q12, hl12, hc12_33⟩ := o_s1E h
  have ex12_33 : ∀ (Ix_33 : ai_I) (z3_x33 : Option ai_V), Ix_33 = q12 → ai_Go si_t (11, false, 9, cd_219) (ai_Cl si_t si_ms e) (sp_Q none I1 J Rf G) 33 [some (.inr (.inr th)), some (.inl a0), some (.inl a1), z3_x33] [] (0, 0) Ix_33 J Rf G := by
    intro Ix_33 z3_x33 hq
    have h : m_219_x12_33 Ix_33 = some I1 := hc12_33 Ix_33 hq.symm
    unfold m_219_x12_33 at h
    cases h
    exact go_vret rfl (rfl) ⟨rfl, rfl, rfl, rfl, rfl⟩
  have lo12 : ∀ n s, lp (fun s => m_219_b12 th Rf G s.1 s.2) n s = some q12 → (fun s => ai_Go si_t (11, false, 9, cd_219) (ai_Cl si_t si_ms e) (sp_Q none I1 J Rf G) 12 [some (.inr (.inr th)), some (.inl a0), some (.inl a1), some (.inl s.1)] [] (0, 0) s.2 J Rf G) s := lp_go (fun s x12 hx hk12 => by
    obtain ⟨v3_12, I_12⟩ := s
    have h : m_219_b12 th Rf G v3_12 I_12 = some x12 := hx
    clear hx
    show ai_Go si_t (11, false, 9, cd_219) (ai_Cl si_t si_ms e) (sp_Q none I1 J Rf G) 12 [some (.inr (.inr th)), some (.inl a0), some (.inl a1), some (.inl v3_12)] [] (0, 0) I_12 J Rf G
    unfold m_219_b12 at h
    refine go_iload_n (pc' := 13) rfl rfl rfl ?_
    refine go_sipush (pc' := 16) (v := (nI 256)) rfl rfl rfl ?_
    refine go_icmp_ge (pt := 33) (pc' := 19) rfl rfl rfl (fun h16 => ?_) (fun h16 => ?_)
    · replace h := o_t h16 h
      exact ex12_33 _ (some (.inl v3_12)) (lp_exitE h hk12)
    · replace h := o_f h16 h
      refine go_aload_n (pc' := 20) rfl rfl rfl ?_
      refine go_getR (pc' := 23) rfl rfl hth rfl ?_
      refine go_iload_n (pc' := 24) rfl rfl rfl ?_
      refine go_ldc (pc' := 26) (v := .inl (-2147483648 : Int32)) rfl rfl rfl ?_
      obtain ⟨g0, h⟩ := o_gE h
      obtain ⟨I_26, eI_26, h⟩ := o_b1E h
      refine go_iastore (pc' := 27) rfl (o_inK g0) (o_inB g0) rfl ?_
      refine go_ndMI eI_26 ?_
      obtain ⟨x3_27, ex3_27, h⟩ := o_b1E h
      refine go_iincE (pc' := 30) rfl rfl (y := (nI 1)) rfl ex3_27 (lo' := [some (.inr (.inr th)), some (.inl a0), some (.inl a1), some (.inl x3_27)]) rfl rfl ?_
      refine go_goto (pc' := 12) rfl rfl ?_
      exact (lp_backE h hk12 :))
  exact lo12 _ ((nI 0), I_7) hl12 
def m_224_x8_36 (Ix_36 : ai_I) : Option (ai_I) :=
  some Ix_36
def m_224_b8 (th : Nat) (a0 : Int32) (a1 : Int32) (Rf : ai_R) (G : ai_G) (v3_8 : Int32) (I_8 : ai_I) : Option ((Int32 × ai_I) ⊕ ai_I) :=
  if ((nI 1) <<< (a0 &&& 31)) ≤ v3_8 then (some (Sum.inr I_8)) else (o_b1 (m_193 v3_8) (fun r_16 => if r_16 = a1 then (o_g (o_in G 13 (Rf th 16) v3_8) (o_b1 (some (va_up I_8 (Rf th 16) (va_up (I_8 (Rf th 16)) v3_8.toNatClampNeg (nI 0)))) (fun I_29 => o_b1 (some (v3_8 + (nI 1))) (fun x3_30 => some (Sum.inl (x3_30, I_29)))))) else (o_b1 (some (v3_8 + (nI 1))) (fun x3_30 => some (Sum.inl (x3_30, I_8))))))
/-- PricedBasesModel.makesUniform(II)V -/
def m_224 (th : Nat) (a0 : Int32) (a1 : Int32) (I : ai_I) (Rf : ai_R) (G : ai_G) : Option (ai_I) :=
  o_b1 (m_219 th a0 a1 I Rf G) (fun I_3 => o_s1 (lp (fun s => m_224_b8 th a0 a1 Rf G s.1 s.2) o_N ((nI 0), I_3)) (fun t => m_224_x8_36 t))
theorem md_224 {d : Nat} {I : ai_I} {J : ai_J} {Rf : ai_R} {G : ai_G} {th : Nat} {a0 : Int32} {a1 : Int32} {I1 : ai_I} (hd : 2 ≤ d) (hth : G.1 th = 11) (h : m_224 th a0 a1 I Rf G = some I1) : ai_Cl si_t si_ms d 224 [.inr (.inr th), .inl a0, .inl a1] I J Rf G none I1 J Rf G := by
  obtain ⟨e, rfl⟩ : ∃ e, d = e + 1 := ⟨d - 1, by omega⟩
  unfold m_224 at h
  refine sp_in (lo := [some (.inr (.inr th)), some (.inl a0), some (.inl a1), none]) (B := (0, 0)) rfl (Nat.le_of_ble_eq_true rfl) rfl rfl ?_
  refine go_aload_n (pc' := 1) rfl rfl rfl ?_
  refine go_iload_n (pc' := 2) rfl rfl rfl ?_
  refine go_iload_n (pc' := 3) rfl rfl rfl ?_
  obtain ⟨I_3, q_3, h⟩ := o_b1E h
  refine go_callV (pc' := 6) (B' := (0, 0)) (st' := []) rfl rfl (Or.inl (by decide)) rfl rfl hth (md_219 (by omega) hth q_3) rfl rfl rfl ?_
  refine go_iconst (pc' := 7) (v := (nI 0)) rfl rfl rfl ?_
  refine go_istore_n (pc' := 8) (lo' := [some (.inr (.inr th)), some (.inl a0), some (.inl a1), some (.inl (nI 0))]) rfl rfl rfl ?_
  obtain ⟨q8, hl8, hc8_36⟩ := o_s1E h
  have ex8_36 : ∀ (Ix_36 : ai_I) (z3_x36 : Option ai_V), Ix_36 = q8 → ai_Go si_t (11, false, 9, cd_224) (ai_Cl si_t si_ms e) (sp_Q none I1 J Rf G) 36 [some (.inr (.inr th)), some (.inl a0), some (.inl a1), z3_x36] [] (0, 0) Ix_36 J Rf G := by
    intro Ix_36 z3_x36 hq
    have h : m_224_x8_36 Ix_36 = some I1 := hc8_36 Ix_36 hq.symm
    unfold m_224_x8_36 at h
    cases h
    exact go_vret rfl (rfl) ⟨rfl, rfl, rfl, rfl, rfl⟩
  have lo8 : ∀ n s, lp (fun s => m_224_b8 th a0 a1 Rf G s.1 s.2) n s = some q8 → (fun s => ai_Go si_t (11, false, 9, cd_224) (ai_Cl si_t si_ms e) (sp_Q none I1 J Rf G) 8 [some (.inr (.inr th)), some (.inl a0), some (.inl a1), some (.inl s.1)] [] (0, 0) s.2 J Rf G) s := lp_go (fun s x8 hx hk8 => by
    obtain ⟨v3_8, I_8⟩ := s
    have h : m_224_b8 th a0 a1 Rf G v3_8 I_8 = some x8 := hx
    clear hx
    show ai_Go si_t (11, false, 9, cd_224) (ai_Cl si_t si_ms e) (sp_Q none I1 J Rf G) 8 [some (.inr (.inr th)), some (.inl a0), some (.inl a1), some (.inl v3_8)] [] (0, 0) I_8 J Rf G
    unfold m_224_b8 at h
    refine go_iload_n (pc' := 9) rfl rfl rfl ?_
    refine go_iconst (pc' := 10) (v := (nI 1)) rfl rfl rfl ?_
    refine go_iload_n (pc' := 11) rfl rfl rfl ?_
    refine go_ishl (pc' := 12) rfl rfl ?_
    refine go_icmp_ge (pt := 36) (pc' := 15) rfl rfl rfl (fun h12 => ?_) (fun h12 => ?_)
    · replace h := o_t h12 h
      exact ex8_36 _ (some (.inl v3_8)) (lp_exitE h hk8)
    · replace h := o_f h12 h
      refine go_iload_n (pc' := 16) rfl rfl rfl ?_
      obtain ⟨r_16, q_16, h⟩ := o_b1E h
      refine go_callS (pc' := 19) (B' := (0, 0)) (st' := [.inl r_16]) rfl rfl (Or.inl (by decide)) rfl rfl trivial (md_193 (by omega) q_16) rfl rfl rfl ?_
      refine go_iload_n (pc' := 20) rfl rfl rfl ?_
      refine go_icmp_ne (pt := 30) (pc' := 23) rfl rfl rfl (fun h20 => ?_) (fun h20 => ?_)
      · replace h := o_f h20 h
        obtain ⟨x3_30, ex3_30, h⟩ := o_b1E h
        refine go_iincE (pc' := 33) rfl rfl (y := (nI 1)) rfl ex3_30 (lo' := [some (.inr (.inr th)), some (.inl a0), some (.inl a1), some (.inl x3_30)]) rfl rfl ?_
        refine go_goto (pc' := 8) rfl rfl ?_
        exact (lp_backE h hk8 :)
      · replace h := o_t (Decidable.of_not_not h20) h
        refine go_aload_n (pc' := 24) rfl rfl rfl ?_
        refine go_getR (pc' := 27) rfl rfl hth rfl ?_
        refine go_iload_n (pc' := 28) rfl rfl rfl ?_
        refine go_iconst (pc' := 29) (v := (nI 0)) rfl rfl rfl ?_
        obtain ⟨g0, h⟩ := o_gE h
        obtain ⟨I_29, eI_29, h⟩ := o_b1E h
        refine go_iastore (pc' := 30) rfl (o_inK g0) (o_inB g0) rfl ?_
        refine go_ndMI eI_29 ?_
        obtain ⟨x3_30, ex3_30, h⟩ := o_b1E h
        refine go_iincE (pc' := 33) rfl rfl (y := (nI 1)) rfl ex3_30 (lo' := [some (.inr (.inr th)), some (.inl a0), some (.inl a1), some (.inl x3_30)]) rfl rfl ?_
        refine go_goto (pc' := 8) rfl rfl ?_
        exact (lp_backE h hk8 :))
  exact lo8 _ ((nI 0), I_3) hl8 
def m_220_j21 (th : Nat) (a0 : Int32) (a1 : Int32) (I : ai_I) (Rf : ai_R) (G : ai_G) : Option (ai_I) :=
  o_g (o_in G 13 (Rf th 16) a0) (o_b1 (some (va_up I (Rf th 16) (va_up (I (Rf th 16)) a0.toNatClampNeg a1))) (fun I_27 => some I_27))
/-- PricedBasesModel.offers(II)V -/
def m_220 (th : Nat) (a0 : Int32) (a1 : Int32) (I : ai_I) (Rf : ai_R) (G : ai_G) : Option (ai_I) :=
  o_g (o_in G 13 (Rf th 16) a0) (if (I (Rf th 16) a0.toNatClampNeg) = (-2147483648 : Int32) then (m_220_j21 th a0 a1 I Rf G) else (o_g (o_in G 13 (Rf th 16) a0) (if a1 ≤ (I (Rf th 16) a0.toNatClampNeg) then (some I) else (m_220_j21 th a0 a1 I Rf G))))
theorem md_220 {d : Nat} {I : ai_I} {J : ai_J} {Rf : ai_R} {G : ai_G} {th : Nat} {a0 : Int32} {a1 : Int32} {I1 : ai_I} (hd : 1 ≤ d) (hth : G.1 th = 11) (h : m_220 th a0 a1 I Rf G = some I1) : ai_Cl si_t si_ms d 220 [.inr (.inr th), .inl a0, .inl a1] I J Rf G none I1 J Rf G := by
  obtain ⟨e, rfl⟩ : ∃ e, d = e + 1 := ⟨d - 1, by omega⟩
  unfold m_220 at h
  refine sp_in (lo := [some (.inr (.inr th)), some (.inl a0), some (.inl a1)]) (B := (0, 0)) rfl (Nat.le_of_ble_eq_true rfl) rfl rfl ?_
  refine go_aload_n (pc' := 1) rfl rfl rfl ?_
  refine go_getR (pc' := 4) rfl rfl hth rfl ?_
  refine go_iload_n (pc' := 5) rfl rfl rfl ?_
  obtain ⟨g0, h⟩ := o_gE h
  refine go_iaload (pc' := 6) rfl (o_inK g0) (o_inB g0) rfl ?_
  refine go_ldc (pc' := 8) (v := .inl (-2147483648 : Int32)) rfl rfl rfl ?_
  have jn21 : m_220_j21 th a0 a1 I Rf G = some I1 → ai_Go si_t (11, false, 9, cd_220) (ai_Cl si_t si_ms e) (sp_Q none I1 J Rf G) 21 [some (.inr (.inr th)), some (.inl a0), some (.inl a1)] [] (0, 0) I J Rf G := by
    intro h
    unfold m_220_j21 at h
    refine go_aload_n (pc' := 22) rfl rfl rfl ?_
    refine go_getR (pc' := 25) rfl rfl hth rfl ?_
    refine go_iload_n (pc' := 26) rfl rfl rfl ?_
    refine go_iload_n (pc' := 27) rfl rfl rfl ?_
    obtain ⟨g1, h⟩ := o_gE h
    obtain ⟨I_27, eI_27, h⟩ := o_b1E h
    refine go_iastore (pc' := 28) rfl (o_inK g1) (o_inB g1) rfl ?_
    refine go_ndMI eI_27 ?_
    cases h
    exact go_vret rfl (rfl) ⟨rfl, rfl, rfl, rfl, rfl⟩
  refine go_icmp_eq (pt := 21) (pc' := 11) rfl rfl rfl (fun h8 => ?_) (fun h8 => ?_)
  · replace h := o_t h8 h
    exact jn21  h
  · replace h := o_f h8 h
    refine go_iload_n (pc' := 12) rfl rfl rfl ?_
    refine go_aload_n (pc' := 13) rfl rfl rfl ?_
    refine go_getR (pc' := 16) rfl rfl hth rfl ?_
    refine go_iload_n (pc' := 17) rfl rfl rfl ?_
    obtain ⟨g2, h⟩ := o_gE h
    refine go_iaload (pc' := 18) rfl (o_inK g2) (o_inB g2) rfl ?_
    refine go_icmp_le (pt := 28) (pc' := 21) rfl rfl rfl (fun h18 => ?_) (fun h18 => ?_)
    · replace h := o_t h18 h
      cases h
      exact go_vret rfl (rfl) ⟨rfl, rfl, rfl, rfl, rfl⟩
    · replace h := o_f h18 h
      exact jn21  h
def m_225_x16_138 (Ix_138 : ai_I) : Option (ai_I) :=
  some Ix_138
def m_225_x29_132 (v4_16 : Int32) (Ix_132 : ai_I) : Option ((Int32 × ai_I) ⊕ ai_I) :=
  o_b1 (some (v4_16 + (nI 1))) (fun x4_132 => some (Sum.inl (x4_132, Ix_132)))
def m_225_x62_117 (th : Nat) (Rf : ai_R) (G : ai_G) (v5_29 : Int32) (Ix_117 : ai_I) : Option ((Int32 × ai_I) ⊕ ai_I) :=
  o_g (o_in G 13 (Rf th 16) v5_29) (o_b1 (some (va_up Ix_117 (Rf th 16) (va_up (Ix_117 (Rf th 16)) v5_29.toNatClampNeg (-2147483648 : Int32)))) (fun I_125 => o_b1 (some (v5_29 + (-1 : Int32))) (fun x5_126 => some (Sum.inl (x5_126, I_125)))))
def m_225_b62 (th : Nat) (a0 : Int32) (a2 : Int32) (Rf : ai_R) (G : ai_G) (v4_16 : Int32) (v5_29 : Int32) (v6_62 : Int32) (I_62 : ai_I) : Option ((Int32 × ai_I) ⊕ ai_I) :=
  if a0 ≤ v6_62 then (some (Sum.inr I_62)) else (o_b1 (m_192 v5_29 v6_62) (fun r_72 => if r_72 = 0 then (o_g (o_in G 13 (Rf th 16) v5_29) (o_g (o_in G 13 (Rf th 15) ((a2 + (a0 * v4_16)) + v6_62)) (o_b1 (m_220 th (v5_29 ||| ((nI 1) <<< (v6_62 &&& 31))) ((I_62 (Rf th 16) v5_29.toNatClampNeg) + (I_62 (Rf th 15) ((a2 + (a0 * v4_16)) + v6_62).toNatClampNeg)) I_62 Rf G) (fun I_108 => o_b1 (some (v6_62 + (nI 1))) (fun x6_111 => some (Sum.inl (x6_111, I_108))))))) else (o_b1 (some (v6_62 + (nI 1))) (fun x6_111 => some (Sum.inl (x6_111, I_62))))))
def m_225_b29 (th : Nat) (a0 : Int32) (a2 : Int32) (Rf : ai_R) (G : ai_G) (v4_16 : Int32) (v5_29 : Int32) (I_29 : ai_I) : Option ((Int32 × ai_I) ⊕ ai_I) :=
  if v5_29 < 0 then (some (Sum.inr I_29)) else (o_b1 (m_193 v5_29) (fun r_36 => if r_36 = v4_16 then (o_g (o_in G 13 (Rf th 16) v5_29) (if (I_29 (Rf th 16) v5_29.toNatClampNeg) = (-2147483648 : Int32) then (o_b1 (some (v5_29 + (-1 : Int32))) (fun x5_126 => some (Sum.inl (x5_126, I_29)))) else (o_s1 (lp (fun s => m_225_b62 th a0 a2 Rf G v4_16 v5_29 s.1 s.2) o_N ((nI 0), I_29)) (fun t => m_225_x62_117 th Rf G v5_29 t)))) else (o_b1 (some (v5_29 + (-1 : Int32))) (fun x5_126 => some (Sum.inl (x5_126, I_29))))))
def m_225_b16 (th : Nat) (a0 : Int32) (a1 : Int32) (a2 : Int32) (Rf : ai_R) (G : ai_G) (v4_16 : Int32) (I_16 : ai_I) : Option ((Int32 × ai_I) ⊕ ai_I) :=
  if a1 ≤ v4_16 then (some (Sum.inr I_16)) else (o_b1 (some (((nI 1) <<< (a0 &&& 31)) - (nI 1))) (fun x5_27 => o_s1 (lp (fun s => m_225_b29 th a0 a2 Rf G v4_16 s.1 s.2) o_N (x5_27, I_16)) (fun t => m_225_x29_132 v4_16 t)))
/-- PricedBasesModel.makesMatch(III)V -/
def m_225 (th : Nat) (a0 : Int32) (a1 : Int32) (a2 : Int32) (I : ai_I) (Rf : ai_R) (G : ai_G) : Option (ai_I) :=
  o_b1 (m_219 th a0 a1 I Rf G) (fun I_3 => o_g (o_in G 13 (Rf th 16) (nI 0)) (o_b1 (some (va_up I_3 (Rf th 16) (va_up (I_3 (Rf th 16)) (nI 0).toNatClampNeg (nI 0)))) (fun I_12 => o_s1 (lp (fun s => m_225_b16 th a0 a1 a2 Rf G s.1 s.2) o_N ((nI 0), I_12)) (fun t => m_225_x16_138 t))))
theorem md_225 {d : Nat} {I : ai_I} {J : ai_J} {Rf : ai_R} {G : ai_G} {th : Nat} {a0 : Int32} {a1 : Int32} {a2 : Int32} {I1 : ai_I} (hd : 2 ≤ d) (hth : G.1 th = 11) (h : m_225 th a0 a1 a2 I Rf G = some I1) : ai_Cl si_t si_ms d 225 [.inr (.inr th), .inl a0, .inl a1, .inl a2] I J Rf G none I1 J Rf G := by
  obtain ⟨e, rfl⟩ : ∃ e, d = e + 1 := ⟨d - 1, by omega⟩
  unfold m_225 at h
  refine sp_in (lo := [some (.inr (.inr th)), some (.inl a0), some (.inl a1), some (.inl a2), none, none, none]) (B := (0, 0)) rfl (Nat.le_of_ble_eq_true rfl) rfl rfl ?_
  refine go_aload_n (pc' := 1) rfl rfl rfl ?_
  refine go_iload_n (pc' := 2) rfl rfl rfl ?_
  refine go_iload_n (pc' := 3) rfl rfl rfl ?_
  obtain ⟨I_3, q_3, h⟩ := o_b1E h
  refine go_callV (pc' := 6) (B' := (0, 0)) (st' := []) rfl rfl (Or.inl (by decide)) rfl rfl hth (md_219 (by omega) hth q_3) rfl rfl rfl ?_
  refine go_aload_n (pc' := 7) rfl rfl rfl ?_
  refine go_getR (pc' := 10) rfl rfl hth rfl ?_
  refine go_iconst (pc' := 11) (v := (nI 0)) rfl rfl rfl ?_
  refine go_iconst (pc' := 12) (v := (nI 0)) rfl rfl rfl ?_
  obtain ⟨g0, h⟩ := o_gE h
  obtain ⟨I_12, eI_12, h⟩ := o_b1E h
  refine go_iastore (pc' := 13) rfl (o_inK g0) (o_inB g0) rfl ?_
  refine go_ndMI eI_12 ?_
  refine go_iconst (pc' := 14) (v := (nI 0)) rfl rfl rfl ?_
  refine go_istore (pc' := 16) (lo' := [some (.inr (.inr th)), some (.inl a0), some (.inl a1), some (.inl a2), some (.inl (nI 0)), none, none]) rfl rfl rfl ?_
  obtain ⟨q16, hl16, hc16_138⟩ := o_s1E h
  have ex16_138 : ∀ (Ix_138 : ai_I) (z4_x138 : Option ai_V) (z5_x138 : Option ai_V) (z6_x138 : Option ai_V), Ix_138 = q16 → ai_Go si_t (11, false, 9, cd_225) (ai_Cl si_t si_ms e) (sp_Q none I1 J Rf G) 138 [some (.inr (.inr th)), some (.inl a0), some (.inl a1), some (.inl a2), z4_x138, z5_x138, z6_x138] [] (0, 0) Ix_138 J Rf G := by
    intro Ix_138 z4_x138 z5_x138 z6_x138 hq
    have h : m_225_x16_138 Ix_138 = some I1 := hc16_138 Ix_138 hq.symm
    unfold m_225_x16_138 at h
    cases h
    exact go_vret rfl (rfl) ⟨rfl, rfl, rfl, rfl, rfl⟩
  have lo16 : ∀ n s, lp (fun s => m_225_b16 th a0 a1 a2 Rf G s.1 s.2) n s = some q16 → (fun s => ∀ (z5_16 : Option ai_V) (z6_16 : Option ai_V), ai_Go si_t (11, false, 9, cd_225) (ai_Cl si_t si_ms e) (sp_Q none I1 J Rf G) 16 [some (.inr (.inr th)), some (.inl a0), some (.inl a1), some (.inl a2), some (.inl s.1), z5_16, z6_16] [] (0, 0) s.2 J Rf G) s := lp_go (fun s x16 hx hk16 => by
    obtain ⟨v4_16, I_16⟩ := s
    intro z5_16 z6_16
    have h : m_225_b16 th a0 a1 a2 Rf G v4_16 I_16 = some x16 := hx
    clear hx
    show ai_Go si_t (11, false, 9, cd_225) (ai_Cl si_t si_ms e) (sp_Q none I1 J Rf G) 16 [some (.inr (.inr th)), some (.inl a0), some (.inl a1), some (.inl a2), some (.inl v4_16), z5_16, z6_16] [] (0, 0) I_16 J Rf G
    unfold m_225_b16 at h
    refine go_iload (pc' := 18) rfl rfl rfl ?_
    refine go_iload_n (pc' := 19) rfl rfl rfl ?_
    refine go_icmp_ge (pt := 138) (pc' := 22) rfl rfl rfl (fun h19 => ?_) (fun h19 => ?_)
    · replace h := o_t h19 h
      exact ex16_138 _ (some (.inl v4_16)) z5_16 z6_16 (lp_exitE h hk16)
    · replace h := o_f h19 h
      refine go_iconst (pc' := 23) (v := (nI 1)) rfl rfl rfl ?_
      refine go_iload_n (pc' := 24) rfl rfl rfl ?_
      refine go_ishl (pc' := 25) rfl rfl ?_
      refine go_iconst (pc' := 26) (v := (nI 1)) rfl rfl rfl ?_
      refine go_isub (pc' := 27) rfl rfl ?_
      obtain ⟨x5_27, ex5_27, h⟩ := o_b1E h
      refine go_ndI ex5_27 ?_
      refine go_istore (pc' := 29) (lo' := [some (.inr (.inr th)), some (.inl a0), some (.inl a1), some (.inl a2), some (.inl v4_16), some (.inl x5_27), z6_16]) rfl rfl rfl ?_
      obtain ⟨q29, hl29, hc29_132⟩ := o_s1E h
      have ex29_132 : ∀ (Ix_132 : ai_I) (z5_x132 : Option ai_V) (z6_x132 : Option ai_V), Ix_132 = q29 → ai_Go si_t (11, false, 9, cd_225) (ai_Cl si_t si_ms e) (sp_Q none I1 J Rf G) 132 [some (.inr (.inr th)), some (.inl a0), some (.inl a1), some (.inl a2), some (.inl v4_16), z5_x132, z6_x132] [] (0, 0) Ix_132 J Rf G := by
        intro Ix_132 z5_x132 z6_x132 hq
        have h : m_225_x29_132 v4_16 Ix_132 = some x16 := hc29_132 Ix_132 hq.symm
        unfold m_225_x29_132 at h
        obtain ⟨x4_132, ex4_132, h⟩ := o_b1E h
        refine go_iincE (pc' := 135) rfl rfl (y := (nI 1)) rfl ex4_132 (lo' := [some (.inr (.inr th)), some (.inl a0), some (.inl a1), some (.inl a2), some (.inl x4_132), z5_x132, z6_x132]) rfl rfl ?_
        refine go_goto (pc' := 16) rfl rfl ?_
        exact (lp_backE h hk16 z5_x132 z6_x132 :)
      have lo29 : ∀ n s, lp (fun s => m_225_b29 th a0 a2 Rf G v4_16 s.1 s.2) n s = some q29 → (fun s => ∀ (z6_29 : Option ai_V), ai_Go si_t (11, false, 9, cd_225) (ai_Cl si_t si_ms e) (sp_Q none I1 J Rf G) 29 [some (.inr (.inr th)), some (.inl a0), some (.inl a1), some (.inl a2), some (.inl v4_16), some (.inl s.1), z6_29] [] (0, 0) s.2 J Rf G) s := lp_go (fun s x29 hx hk29 => by
        obtain ⟨v5_29, I_29⟩ := s
        intro z6_29
        have h : m_225_b29 th a0 a2 Rf G v4_16 v5_29 I_29 = some x29 := hx
        clear hx
        show ai_Go si_t (11, false, 9, cd_225) (ai_Cl si_t si_ms e) (sp_Q none I1 J Rf G) 29 [some (.inr (.inr th)), some (.inl a0), some (.inl a1), some (.inl a2), some (.inl v4_16), some (.inl v5_29), z6_29] [] (0, 0) I_29 J Rf G
        unfold m_225_b29 at h
        refine go_iload (pc' := 31) rfl rfl rfl ?_
        refine go_if_lt (pt := 132) (pc' := 34) rfl rfl rfl (fun h31 => ?_) (fun h31 => ?_)
        · replace h := o_t h31 h
          exact ex29_132 _ (some (.inl v5_29)) z6_29 (lp_exitE h hk29)
        · replace h := o_f h31 h
          refine go_iload (pc' := 36) rfl rfl rfl ?_
          obtain ⟨r_36, q_36, h⟩ := o_b1E h
          refine go_callS (pc' := 39) (B' := (0, 0)) (st' := [.inl r_36]) rfl rfl (Or.inl (by decide)) rfl rfl trivial (md_193 (by omega) q_36) rfl rfl rfl ?_
          refine go_iload (pc' := 41) rfl rfl rfl ?_
          refine go_icmp_ne (pt := 126) (pc' := 44) rfl rfl rfl (fun h41 => ?_) (fun h41 => ?_)
          · replace h := o_f h41 h
            obtain ⟨x5_126, ex5_126, h⟩ := o_b1E h
            refine go_iincE (pc' := 129) rfl rfl (y := (-1 : Int32)) rfl ex5_126 (lo' := [some (.inr (.inr th)), some (.inl a0), some (.inl a1), some (.inl a2), some (.inl v4_16), some (.inl x5_126), z6_29]) rfl rfl ?_
            refine go_goto (pc' := 29) rfl rfl ?_
            exact (lp_backE h hk29 z6_29 :)
          · replace h := o_t (Decidable.of_not_not h41) h
            refine go_aload_n (pc' := 45) rfl rfl rfl ?_
            refine go_getR (pc' := 48) rfl rfl hth rfl ?_
            refine go_iload (pc' := 50) rfl rfl rfl ?_
            obtain ⟨g1, h⟩ := o_gE h
            refine go_iaload (pc' := 51) rfl (o_inK g1) (o_inB g1) rfl ?_
            refine go_ldc (pc' := 53) (v := .inl (-2147483648 : Int32)) rfl rfl rfl ?_
            refine go_icmp_ne (pt := 59) (pc' := 56) rfl rfl rfl (fun h53 => ?_) (fun h53 => ?_)
            · replace h := o_f h53 h
              refine go_iconst (pc' := 60) (v := (nI 0)) rfl rfl rfl ?_
              refine go_istore (pc' := 62) (lo' := [some (.inr (.inr th)), some (.inl a0), some (.inl a1), some (.inl a2), some (.inl v4_16), some (.inl v5_29), some (.inl (nI 0))]) rfl rfl rfl ?_
              obtain ⟨q62, hl62, hc62_117⟩ := o_s1E h
              have ex62_117 : ∀ (Ix_117 : ai_I) (z6_x117 : Option ai_V), Ix_117 = q62 → ai_Go si_t (11, false, 9, cd_225) (ai_Cl si_t si_ms e) (sp_Q none I1 J Rf G) 117 [some (.inr (.inr th)), some (.inl a0), some (.inl a1), some (.inl a2), some (.inl v4_16), some (.inl v5_29), z6_x117] [] (0, 0) Ix_117 J Rf G := by
                intro Ix_117 z6_x117 hq
                have h : m_225_x62_117 th Rf G v5_29 Ix_117 = some x29 := hc62_117 Ix_117 hq.symm
                unfold m_225_x62_117 at h
                refine go_aload_n (pc' := 118) rfl rfl rfl ?_
                refine go_getR (pc' := 121) rfl rfl hth rfl ?_
                refine go_iload (pc' := 123) rfl rfl rfl ?_
                refine go_ldc (pc' := 125) (v := .inl (-2147483648 : Int32)) rfl rfl rfl ?_
                obtain ⟨g2, h⟩ := o_gE h
                obtain ⟨I_125, eI_125, h⟩ := o_b1E h
                refine go_iastore (pc' := 126) rfl (o_inK g2) (o_inB g2) rfl ?_
                refine go_ndMI eI_125 ?_
                obtain ⟨x5_126, ex5_126, h⟩ := o_b1E h
                refine go_iincE (pc' := 129) rfl rfl (y := (-1 : Int32)) rfl ex5_126 (lo' := [some (.inr (.inr th)), some (.inl a0), some (.inl a1), some (.inl a2), some (.inl v4_16), some (.inl x5_126), z6_x117]) rfl rfl ?_
                refine go_goto (pc' := 29) rfl rfl ?_
                exact (lp_backE h hk29 z6_x117 :)
              have lo62 : ∀ n s, lp (fun s => m_225_b62 th a0 a2 Rf G v4_16 v5_29 s.1 s.2) n s = some q62 → (fun s => ai_Go si_t (11, false, 9, cd_225) (ai_Cl si_t si_ms e) (sp_Q none I1 J Rf G) 62 [some (.inr (.inr th)), some (.inl a0), some (.inl a1), some (.inl a2), some (.inl v4_16), some (.inl v5_29), some (.inl s.1)] [] (0, 0) s.2 J Rf G) s := lp_go (fun s x62 hx hk62 => by
                obtain ⟨v6_62, I_62⟩ := s
                have h : m_225_b62 th a0 a2 Rf G v4_16 v5_29 v6_62 I_62 = some x62 := hx
                clear hx
                show ai_Go si_t (11, false, 9, cd_225) (ai_Cl si_t si_ms e) (sp_Q none I1 J Rf G) 62 [some (.inr (.inr th)), some (.inl a0), some (.inl a1), some (.inl a2), some (.inl v4_16), some (.inl v5_29), some (.inl v6_62)] [] (0, 0) I_62 J Rf G
                unfold m_225_b62 at h
                refine go_iload (pc' := 64) rfl rfl rfl ?_
                refine go_iload_n (pc' := 65) rfl rfl rfl ?_
                refine go_icmp_ge (pt := 117) (pc' := 68) rfl rfl rfl (fun h65 => ?_) (fun h65 => ?_)
                · replace h := o_t h65 h
                  exact ex62_117 _ (some (.inl v6_62)) (lp_exitE h hk62)
                · replace h := o_f h65 h
                  refine go_iload (pc' := 70) rfl rfl rfl ?_
                  refine go_iload (pc' := 72) rfl rfl rfl ?_
                  obtain ⟨r_72, q_72, h⟩ := o_b1E h
                  refine go_callS (pc' := 75) (B' := (0, 0)) (st' := [.inl r_72]) rfl rfl (Or.inl (by decide)) rfl rfl trivial (md_192 (by omega) q_72) rfl rfl rfl ?_
                  refine go_if_ne (pt := 111) (pc' := 78) rfl rfl rfl (fun h75 => ?_) (fun h75 => ?_)
                  · replace h := o_f h75 h
                    obtain ⟨x6_111, ex6_111, h⟩ := o_b1E h
                    refine go_iincE (pc' := 114) rfl rfl (y := (nI 1)) rfl ex6_111 (lo' := [some (.inr (.inr th)), some (.inl a0), some (.inl a1), some (.inl a2), some (.inl v4_16), some (.inl v5_29), some (.inl x6_111)]) rfl rfl ?_
                    refine go_goto (pc' := 62) rfl rfl ?_
                    exact (lp_backE h hk62 :)
                  · replace h := o_t (Decidable.of_not_not h75) h
                    refine go_aload_n (pc' := 79) rfl rfl rfl ?_
                    refine go_iload (pc' := 81) rfl rfl rfl ?_
                    refine go_iconst (pc' := 82) (v := (nI 1)) rfl rfl rfl ?_
                    refine go_iload (pc' := 84) rfl rfl rfl ?_
                    refine go_ishl (pc' := 85) rfl rfl ?_
                    refine go_ior (pc' := 86) rfl rfl ?_
                    refine go_aload_n (pc' := 87) rfl rfl rfl ?_
                    refine go_getR (pc' := 90) rfl rfl hth rfl ?_
                    refine go_iload (pc' := 92) rfl rfl rfl ?_
                    obtain ⟨g3, h⟩ := o_gE h
                    refine go_iaload (pc' := 93) rfl (o_inK g3) (o_inB g3) rfl ?_
                    refine go_aload_n (pc' := 94) rfl rfl rfl ?_
                    refine go_getR (pc' := 97) rfl rfl hth rfl ?_
                    refine go_iload_n (pc' := 98) rfl rfl rfl ?_
                    refine go_iload_n (pc' := 99) rfl rfl rfl ?_
                    refine go_iload (pc' := 101) rfl rfl rfl ?_
                    refine go_imul (pc' := 102) rfl rfl ?_
                    refine go_iadd (pc' := 103) rfl rfl ?_
                    refine go_iload (pc' := 105) rfl rfl rfl ?_
                    refine go_iadd (pc' := 106) rfl rfl ?_
                    obtain ⟨g4, h⟩ := o_gE h
                    refine go_iaload (pc' := 107) rfl (o_inK g4) (o_inB g4) rfl ?_
                    refine go_iadd (pc' := 108) rfl rfl ?_
                    obtain ⟨I_108, q_108, h⟩ := o_b1E h
                    refine go_callV (pc' := 111) (B' := (0, 0)) (st' := []) rfl rfl (Or.inl (by decide)) rfl rfl hth (md_220 (by omega) hth q_108) rfl rfl rfl ?_
                    obtain ⟨x6_111, ex6_111, h⟩ := o_b1E h
                    refine go_iincE (pc' := 114) rfl rfl (y := (nI 1)) rfl ex6_111 (lo' := [some (.inr (.inr th)), some (.inl a0), some (.inl a1), some (.inl a2), some (.inl v4_16), some (.inl v5_29), some (.inl x6_111)]) rfl rfl ?_
                    refine go_goto (pc' := 62) rfl rfl ?_
                    exact (lp_backE h hk62 :))
              exact lo62 _ ((nI 0), I_29) hl62 
            · replace h := o_t (Decidable.of_not_not h53) h
              refine go_goto (pc' := 126) rfl rfl ?_
              obtain ⟨x5_126, ex5_126, h⟩ := o_b1E h
              refine go_iincE (pc' := 129) rfl rfl (y := (-1 : Int32)) rfl ex5_126 (lo' := [some (.inr (.inr th)), some (.inl a0), some (.inl a1), some (.inl a2), some (.inl v4_16), some (.inl x5_126), z6_29]) rfl rfl ?_
              refine go_goto (pc' := 29) rfl rfl ?_
              exact (lp_backE h hk29 z6_29 :))
      exact lo29 _ (x5_27, I_16) hl29 z6_16)
  exact lo16 _ ((nI 0), I_12) hl16 none none
def m_226_x6_92 (a1 : Int32) (w4_92 : Int32) : Option (Int32) :=
  if w4_92 = (((nI 1) <<< (a1 &&& 31)) - (nI 1)) then (some (nI 1)) else (some (nI 0))
def m_226_x15_86 (v5_6 : Int32) (w4_86 : Int32) : Option ((Int32 × Int32) ⊕ Int32) :=
  o_b1 (some (v5_6 + (nI 1))) (fun x5_86 => some (Sum.inl (w4_86, x5_86)))
def m_226_b15 (th : Nat) (a0 : Int32) (a2 : Int32) (I : ai_I) (Rf : ai_R) (G : ai_G) (v4_15 : Int32) (v6_15 : Int32) : Option ((Int32 × Int32) ⊕ Int32) :=
  if (nI 8) ≤ v6_15 then (some (Sum.inr v4_15)) else (o_b1 (m_192 a0 v6_15) (fun r_25 => if r_25 = 0 then (o_b1 (some (v6_15 + (nI 1))) (fun x6_80 => some (Sum.inl (v4_15, x6_80)))) else (o_g (o_in G 13 (Rf th 15) (a2 + ((nI 2) * v6_15))) (o_g (o_in G 13 (Rf th 15) ((a2 + ((nI 2) * v6_15)) + (nI 1))) (o_b1 (some (((nI 1) <<< ((I (Rf th 15) (a2 + ((nI 2) * v6_15)).toNatClampNeg) &&& 31)) ||| ((nI 1) <<< ((I (Rf th 15) ((a2 + ((nI 2) * v6_15)) + (nI 1)).toNatClampNeg) &&& 31)))) (fun x7_63 => if (v4_15 &&& x7_63) = 0 then (o_b1 (some (v6_15 + (nI 1))) (fun x6_80 => some (Sum.inl (v4_15, x6_80)))) else (o_b1 (some (v4_15 ||| x7_63)) (fun x4_78 => o_b1 (some (v6_15 + (nI 1))) (fun x6_80 => some (Sum.inl (x4_78, x6_80)))))))))))
def m_226_b6 (th : Nat) (a0 : Int32) (a1 : Int32) (a2 : Int32) (I : ai_I) (Rf : ai_R) (G : ai_G) (v4_6 : Int32) (v5_6 : Int32) : Option ((Int32 × Int32) ⊕ Int32) :=
  if a1 ≤ v5_6 then (some (Sum.inr v4_6)) else (o_s1 (lp (fun s => m_226_b15 th a0 a2 I Rf G s.1 s.2) o_N (v4_6, (nI 0))) (fun t => m_226_x15_86 v5_6 t))
/-- PricedBasesModel.isTree(III)Z -/
def m_226 (th : Nat) (a0 : Int32) (a1 : Int32) (a2 : Int32) (I : ai_I) (Rf : ai_R) (G : ai_G) : Option (Int32) :=
  o_s1 (lp (fun s => m_226_b6 th a0 a1 a2 I Rf G s.1 s.2) o_N ((nI 1), (nI 0))) (fun t => m_226_x6_92 a1 t)
theorem md_226 {d : Nat} {I : ai_I} {J : ai_J} {Rf : ai_R} {G : ai_G} {th : Nat} {a0 : Int32} {a1 : Int32} {a2 : Int32} {r : Int32} (hd : 2 ≤ d) (hth : G.1 th = 11) (h : m_226 th a0 a1 a2 I Rf G = some r) : ai_Cl si_t si_ms d 226 [.inr (.inr th), .inl a0, .inl a1, .inl a2] I J Rf G (some (.inl r)) I J Rf G := by
  obtain ⟨e, rfl⟩ : ∃ e, d = e + 1 := ⟨d - 1, by omega⟩
  unfold m_226 at h
  refine sp_in (lo := [some (.inr (.inr th)), some (.inl a0), some (.inl a1), some (.inl a2), none, none, none, none]) (B := (0, 0)) rfl (Nat.le_of_ble_eq_true rfl) rfl rfl ?_
  refine go_iconst (pc' := 1) (v := (nI 1)) rfl rfl rfl ?_
  refine go_istore (pc' := 3) (lo' := [some (.inr (.inr th)), some (.inl a0), some (.inl a1), some (.inl a2), some (.inl (nI 1)), none, none, none]) rfl rfl rfl ?_
  refine go_iconst (pc' := 4) (v := (nI 0)) rfl rfl rfl ?_
  refine go_istore (pc' := 6) (lo' := [some (.inr (.inr th)), some (.inl a0), some (.inl a1), some (.inl a2), some (.inl (nI 1)), some (.inl (nI 0)), none, none]) rfl rfl rfl ?_
  obtain ⟨q6, hl6, hc6_92⟩ := o_s1E h
  have ex6_92 : ∀ (w4_92 : Int32) (z5_x92 : Option ai_V) (z6_x92 : Option ai_V) (z7_x92 : Option ai_V), w4_92 = q6 → ai_Go si_t (11, false, 3, cd_226) (ai_Cl si_t si_ms e) (sp_Q (some (.inl r)) I J Rf G) 92 [some (.inr (.inr th)), some (.inl a0), some (.inl a1), some (.inl a2), some (.inl w4_92), z5_x92, z6_x92, z7_x92] [] (0, 0) I J Rf G := by
    intro w4_92 z5_x92 z6_x92 z7_x92 hq
    have h : m_226_x6_92 a1 w4_92 = some r := hc6_92 w4_92 hq.symm
    unfold m_226_x6_92 at h
    refine go_iload (pc' := 94) rfl rfl rfl ?_
    refine go_iconst (pc' := 95) (v := (nI 1)) rfl rfl rfl ?_
    refine go_iload_n (pc' := 96) rfl rfl rfl ?_
    refine go_ishl (pc' := 97) rfl rfl ?_
    refine go_iconst (pc' := 98) (v := (nI 1)) rfl rfl rfl ?_
    refine go_isub (pc' := 99) rfl rfl ?_
    refine go_icmp_ne (pt := 106) (pc' := 102) rfl rfl rfl (fun h99 => ?_) (fun h99 => ?_)
    · replace h := o_f h99 h
      refine go_iconst (pc' := 107) (v := (nI 0)) rfl rfl rfl ?_
      cases h
      exact go_iret rfl (rfl) ⟨rfl, rfl, rfl, rfl, rfl⟩
    · replace h := o_t (Decidable.of_not_not h99) h
      refine go_iconst (pc' := 103) (v := (nI 1)) rfl rfl rfl ?_
      refine go_goto (pc' := 107) rfl rfl ?_
      cases h
      exact go_iret rfl (rfl) ⟨rfl, rfl, rfl, rfl, rfl⟩
  have lo6 : ∀ n s, lp (fun s => m_226_b6 th a0 a1 a2 I Rf G s.1 s.2) n s = some q6 → (fun s => ∀ (z6_6 : Option ai_V) (z7_6 : Option ai_V), ai_Go si_t (11, false, 3, cd_226) (ai_Cl si_t si_ms e) (sp_Q (some (.inl r)) I J Rf G) 6 [some (.inr (.inr th)), some (.inl a0), some (.inl a1), some (.inl a2), some (.inl s.1), some (.inl s.2), z6_6, z7_6] [] (0, 0) I J Rf G) s := lp_go (fun s x6 hx hk6 => by
    obtain ⟨v4_6, v5_6⟩ := s
    intro z6_6 z7_6
    have h : m_226_b6 th a0 a1 a2 I Rf G v4_6 v5_6 = some x6 := hx
    clear hx
    show ai_Go si_t (11, false, 3, cd_226) (ai_Cl si_t si_ms e) (sp_Q (some (.inl r)) I J Rf G) 6 [some (.inr (.inr th)), some (.inl a0), some (.inl a1), some (.inl a2), some (.inl v4_6), some (.inl v5_6), z6_6, z7_6] [] (0, 0) I J Rf G
    unfold m_226_b6 at h
    refine go_iload (pc' := 8) rfl rfl rfl ?_
    refine go_iload_n (pc' := 9) rfl rfl rfl ?_
    refine go_icmp_ge (pt := 92) (pc' := 12) rfl rfl rfl (fun h9 => ?_) (fun h9 => ?_)
    · replace h := o_t h9 h
      exact ex6_92 _ (some (.inl v5_6)) z6_6 z7_6 (lp_exitE h hk6)
    · replace h := o_f h9 h
      refine go_iconst (pc' := 13) (v := (nI 0)) rfl rfl rfl ?_
      refine go_istore (pc' := 15) (lo' := [some (.inr (.inr th)), some (.inl a0), some (.inl a1), some (.inl a2), some (.inl v4_6), some (.inl v5_6), some (.inl (nI 0)), z7_6]) rfl rfl rfl ?_
      obtain ⟨q15, hl15, hc15_86⟩ := o_s1E h
      have ex15_86 : ∀ (w4_86 : Int32) (z6_x86 : Option ai_V) (z7_x86 : Option ai_V), w4_86 = q15 → ai_Go si_t (11, false, 3, cd_226) (ai_Cl si_t si_ms e) (sp_Q (some (.inl r)) I J Rf G) 86 [some (.inr (.inr th)), some (.inl a0), some (.inl a1), some (.inl a2), some (.inl w4_86), some (.inl v5_6), z6_x86, z7_x86] [] (0, 0) I J Rf G := by
        intro w4_86 z6_x86 z7_x86 hq
        have h : m_226_x15_86 v5_6 w4_86 = some x6 := hc15_86 w4_86 hq.symm
        unfold m_226_x15_86 at h
        obtain ⟨x5_86, ex5_86, h⟩ := o_b1E h
        refine go_iincE (pc' := 89) rfl rfl (y := (nI 1)) rfl ex5_86 (lo' := [some (.inr (.inr th)), some (.inl a0), some (.inl a1), some (.inl a2), some (.inl w4_86), some (.inl x5_86), z6_x86, z7_x86]) rfl rfl ?_
        refine go_goto (pc' := 6) rfl rfl ?_
        exact (lp_backE h hk6 z6_x86 z7_x86 :)
      have lo15 : ∀ n s, lp (fun s => m_226_b15 th a0 a2 I Rf G s.1 s.2) n s = some q15 → (fun s => ∀ (z7_15 : Option ai_V), ai_Go si_t (11, false, 3, cd_226) (ai_Cl si_t si_ms e) (sp_Q (some (.inl r)) I J Rf G) 15 [some (.inr (.inr th)), some (.inl a0), some (.inl a1), some (.inl a2), some (.inl s.1), some (.inl v5_6), some (.inl s.2), z7_15] [] (0, 0) I J Rf G) s := lp_go (fun s x15 hx hk15 => by
        obtain ⟨v4_15, v6_15⟩ := s
        intro z7_15
        have h : m_226_b15 th a0 a2 I Rf G v4_15 v6_15 = some x15 := hx
        clear hx
        show ai_Go si_t (11, false, 3, cd_226) (ai_Cl si_t si_ms e) (sp_Q (some (.inl r)) I J Rf G) 15 [some (.inr (.inr th)), some (.inl a0), some (.inl a1), some (.inl a2), some (.inl v4_15), some (.inl v5_6), some (.inl v6_15), z7_15] [] (0, 0) I J Rf G
        unfold m_226_b15 at h
        refine go_iload (pc' := 17) rfl rfl rfl ?_
        refine go_bipush (pc' := 19) (v := (nI 8)) rfl rfl rfl ?_
        refine go_icmp_ge (pt := 86) (pc' := 22) rfl rfl rfl (fun h19 => ?_) (fun h19 => ?_)
        · replace h := o_t h19 h
          exact ex15_86 _ (some (.inl v6_15)) z7_15 (lp_exitE h hk15)
        · replace h := o_f h19 h
          refine go_iload_n (pc' := 23) rfl rfl rfl ?_
          refine go_iload (pc' := 25) rfl rfl rfl ?_
          obtain ⟨r_25, q_25, h⟩ := o_b1E h
          refine go_callS (pc' := 28) (B' := (0, 0)) (st' := [.inl r_25]) rfl rfl (Or.inl (by decide)) rfl rfl trivial (md_192 (by omega) q_25) rfl rfl rfl ?_
          refine go_if_ne (pt := 34) (pc' := 31) rfl rfl rfl (fun h28 => ?_) (fun h28 => ?_)
          · replace h := o_f h28 h
            refine go_iconst (pc' := 35) (v := (nI 1)) rfl rfl rfl ?_
            refine go_aload_n (pc' := 36) rfl rfl rfl ?_
            refine go_getR (pc' := 39) rfl rfl hth rfl ?_
            refine go_iload_n (pc' := 40) rfl rfl rfl ?_
            refine go_iconst (pc' := 41) (v := (nI 2)) rfl rfl rfl ?_
            refine go_iload (pc' := 43) rfl rfl rfl ?_
            refine go_imul (pc' := 44) rfl rfl ?_
            refine go_iadd (pc' := 45) rfl rfl ?_
            obtain ⟨g0, h⟩ := o_gE h
            refine go_iaload (pc' := 46) rfl (o_inK g0) (o_inB g0) rfl ?_
            refine go_ishl (pc' := 47) rfl rfl ?_
            refine go_iconst (pc' := 48) (v := (nI 1)) rfl rfl rfl ?_
            refine go_aload_n (pc' := 49) rfl rfl rfl ?_
            refine go_getR (pc' := 52) rfl rfl hth rfl ?_
            refine go_iload_n (pc' := 53) rfl rfl rfl ?_
            refine go_iconst (pc' := 54) (v := (nI 2)) rfl rfl rfl ?_
            refine go_iload (pc' := 56) rfl rfl rfl ?_
            refine go_imul (pc' := 57) rfl rfl ?_
            refine go_iadd (pc' := 58) rfl rfl ?_
            refine go_iconst (pc' := 59) (v := (nI 1)) rfl rfl rfl ?_
            refine go_iadd (pc' := 60) rfl rfl ?_
            obtain ⟨g1, h⟩ := o_gE h
            refine go_iaload (pc' := 61) rfl (o_inK g1) (o_inB g1) rfl ?_
            refine go_ishl (pc' := 62) rfl rfl ?_
            refine go_ior (pc' := 63) rfl rfl ?_
            obtain ⟨x7_63, ex7_63, h⟩ := o_b1E h
            refine go_ndI ex7_63 ?_
            refine go_istore (pc' := 65) (lo' := [some (.inr (.inr th)), some (.inl a0), some (.inl a1), some (.inl a2), some (.inl v4_15), some (.inl v5_6), some (.inl v6_15), some (.inl x7_63)]) rfl rfl rfl ?_
            refine go_iload (pc' := 67) rfl rfl rfl ?_
            refine go_iload (pc' := 69) rfl rfl rfl ?_
            refine go_iand (pc' := 70) rfl rfl ?_
            refine go_if_eq (pt := 80) (pc' := 73) rfl rfl rfl (fun h70 => ?_) (fun h70 => ?_)
            · replace h := o_t h70 h
              obtain ⟨x6_80, ex6_80, h⟩ := o_b1E h
              refine go_iincE (pc' := 83) rfl rfl (y := (nI 1)) rfl ex6_80 (lo' := [some (.inr (.inr th)), some (.inl a0), some (.inl a1), some (.inl a2), some (.inl v4_15), some (.inl v5_6), some (.inl x6_80), some (.inl x7_63)]) rfl rfl ?_
              refine go_goto (pc' := 15) rfl rfl ?_
              exact (lp_backE h hk15 (some (.inl x7_63)) :)
            · replace h := o_f h70 h
              refine go_iload (pc' := 75) rfl rfl rfl ?_
              refine go_iload (pc' := 77) rfl rfl rfl ?_
              refine go_ior (pc' := 78) rfl rfl ?_
              obtain ⟨x4_78, ex4_78, h⟩ := o_b1E h
              refine go_ndI ex4_78 ?_
              refine go_istore (pc' := 80) (lo' := [some (.inr (.inr th)), some (.inl a0), some (.inl a1), some (.inl a2), some (.inl x4_78), some (.inl v5_6), some (.inl v6_15), some (.inl x7_63)]) rfl rfl rfl ?_
              obtain ⟨x6_80, ex6_80, h⟩ := o_b1E h
              refine go_iincE (pc' := 83) rfl rfl (y := (nI 1)) rfl ex6_80 (lo' := [some (.inr (.inr th)), some (.inl a0), some (.inl a1), some (.inl a2), some (.inl x4_78), some (.inl v5_6), some (.inl x6_80), some (.inl x7_63)]) rfl rfl ?_
              refine go_goto (pc' := 15) rfl rfl ?_
              exact (lp_backE h hk15 (some (.inl x7_63)) :)
          · replace h := o_t (Decidable.of_not_not h28) h
            refine go_goto (pc' := 80) rfl rfl ?_
            obtain ⟨x6_80, ex6_80, h⟩ := o_b1E h
            refine go_iincE (pc' := 83) rfl rfl (y := (nI 1)) rfl ex6_80 (lo' := [some (.inr (.inr th)), some (.inl a0), some (.inl a1), some (.inl a2), some (.inl v4_15), some (.inl v5_6), some (.inl x6_80), z7_15]) rfl rfl ?_
            refine go_goto (pc' := 15) rfl rfl ?_
            exact (lp_backE h hk15 z7_15 :))
      exact lo15 _ (v4_6, (nI 0)) hl15 z7_6)
  exact lo6 _ ((nI 1), (nI 0)) hl6 none none
def m_227_x11_55 (Ix_55 : ai_I) : Option (ai_I) :=
  some Ix_55
def m_227_b11 (th : Nat) (a0 : Int32) (a1 : Int32) (a2 : Int32) (Rf : ai_R) (G : ai_G) (v4_11 : Int32) (I_11 : ai_I) : Option ((Int32 × ai_I) ⊕ ai_I) :=
  if ((nI 1) <<< (a0 &&& 31)) ≤ v4_11 then (some (Sum.inr I_11)) else (o_b1 (m_193 v4_11) (fun r_21 => if r_21 = (a1 - (nI 1)) then (o_b1 (m_226 th v4_11 a1 a2 I_11 Rf G) (fun r_35 => if r_35 = 0 then (o_b1 (some (v4_11 + (nI 1))) (fun x4_49 => some (Sum.inl (x4_49, I_11)))) else (o_g (o_in G 13 (Rf th 16) v4_11) (o_b1 (some (va_up I_11 (Rf th 16) (va_up (I_11 (Rf th 16)) v4_11.toNatClampNeg (nI 0)))) (fun I_48 => o_b1 (some (v4_11 + (nI 1))) (fun x4_49 => some (Sum.inl (x4_49, I_48)))))))) else (o_b1 (some (v4_11 + (nI 1))) (fun x4_49 => some (Sum.inl (x4_49, I_11))))))
/-- PricedBasesModel.makesGraph(III)V -/
def m_227 (th : Nat) (a0 : Int32) (a1 : Int32) (a2 : Int32) (I : ai_I) (Rf : ai_R) (G : ai_G) : Option (ai_I) :=
  o_b1 (m_219 th a0 (a1 - (nI 1)) I Rf G) (fun I_5 => o_s1 (lp (fun s => m_227_b11 th a0 a1 a2 Rf G s.1 s.2) o_N ((nI 0), I_5)) (fun t => m_227_x11_55 t))
theorem md_227 {d : Nat} {I : ai_I} {J : ai_J} {Rf : ai_R} {G : ai_G} {th : Nat} {a0 : Int32} {a1 : Int32} {a2 : Int32} {I1 : ai_I} (hd : 3 ≤ d) (hth : G.1 th = 11) (h : m_227 th a0 a1 a2 I Rf G = some I1) : ai_Cl si_t si_ms d 227 [.inr (.inr th), .inl a0, .inl a1, .inl a2] I J Rf G none I1 J Rf G := by
  obtain ⟨e, rfl⟩ : ∃ e, d = e + 1 := ⟨d - 1, by omega⟩
  unfold m_227 at h
  refine sp_in (lo := [some (.inr (.inr th)), some (.inl a0), some (.inl a1), some (.inl a2), none]) (B := (0, 0)) rfl (Nat.le_of_ble_eq_true rfl) rfl rfl ?_
  refine go_aload_n (pc' := 1) rfl rfl rfl ?_
  refine go_iload_n (pc' := 2) rfl rfl rfl ?_
  refine go_iload_n (pc' := 3) rfl rfl rfl ?_
  refine go_iconst (pc' := 4) (v := (nI 1)) rfl rfl rfl ?_
  refine go_isub (pc' := 5) rfl rfl ?_
  obtain ⟨I_5, q_5, h⟩ := o_b1E h
  refine go_callV (pc' := 8) (B' := (0, 0)) (st' := []) rfl rfl (Or.inl (by decide)) rfl rfl hth (md_219 (by omega) hth q_5) rfl rfl rfl ?_
  refine go_iconst (pc' := 9) (v := (nI 0)) rfl rfl rfl ?_
  refine go_istore (pc' := 11) (lo' := [some (.inr (.inr th)), some (.inl a0), some (.inl a1), some (.inl a2), some (.inl (nI 0))]) rfl rfl rfl ?_
  obtain ⟨q11, hl11, hc11_55⟩ := o_s1E h
  have ex11_55 : ∀ (Ix_55 : ai_I) (z4_x55 : Option ai_V), Ix_55 = q11 → ai_Go si_t (11, false, 9, cd_227) (ai_Cl si_t si_ms e) (sp_Q none I1 J Rf G) 55 [some (.inr (.inr th)), some (.inl a0), some (.inl a1), some (.inl a2), z4_x55] [] (0, 0) Ix_55 J Rf G := by
    intro Ix_55 z4_x55 hq
    have h : m_227_x11_55 Ix_55 = some I1 := hc11_55 Ix_55 hq.symm
    unfold m_227_x11_55 at h
    cases h
    exact go_vret rfl (rfl) ⟨rfl, rfl, rfl, rfl, rfl⟩
  have lo11 : ∀ n s, lp (fun s => m_227_b11 th a0 a1 a2 Rf G s.1 s.2) n s = some q11 → (fun s => ai_Go si_t (11, false, 9, cd_227) (ai_Cl si_t si_ms e) (sp_Q none I1 J Rf G) 11 [some (.inr (.inr th)), some (.inl a0), some (.inl a1), some (.inl a2), some (.inl s.1)] [] (0, 0) s.2 J Rf G) s := lp_go (fun s x11 hx hk11 => by
    obtain ⟨v4_11, I_11⟩ := s
    have h : m_227_b11 th a0 a1 a2 Rf G v4_11 I_11 = some x11 := hx
    clear hx
    show ai_Go si_t (11, false, 9, cd_227) (ai_Cl si_t si_ms e) (sp_Q none I1 J Rf G) 11 [some (.inr (.inr th)), some (.inl a0), some (.inl a1), some (.inl a2), some (.inl v4_11)] [] (0, 0) I_11 J Rf G
    unfold m_227_b11 at h
    refine go_iload (pc' := 13) rfl rfl rfl ?_
    refine go_iconst (pc' := 14) (v := (nI 1)) rfl rfl rfl ?_
    refine go_iload_n (pc' := 15) rfl rfl rfl ?_
    refine go_ishl (pc' := 16) rfl rfl ?_
    refine go_icmp_ge (pt := 55) (pc' := 19) rfl rfl rfl (fun h16 => ?_) (fun h16 => ?_)
    · replace h := o_t h16 h
      exact ex11_55 _ (some (.inl v4_11)) (lp_exitE h hk11)
    · replace h := o_f h16 h
      refine go_iload (pc' := 21) rfl rfl rfl ?_
      obtain ⟨r_21, q_21, h⟩ := o_b1E h
      refine go_callS (pc' := 24) (B' := (0, 0)) (st' := [.inl r_21]) rfl rfl (Or.inl (by decide)) rfl rfl trivial (md_193 (by omega) q_21) rfl rfl rfl ?_
      refine go_iload_n (pc' := 25) rfl rfl rfl ?_
      refine go_iconst (pc' := 26) (v := (nI 1)) rfl rfl rfl ?_
      refine go_isub (pc' := 27) rfl rfl ?_
      refine go_icmp_ne (pt := 49) (pc' := 30) rfl rfl rfl (fun h27 => ?_) (fun h27 => ?_)
      · replace h := o_f h27 h
        obtain ⟨x4_49, ex4_49, h⟩ := o_b1E h
        refine go_iincE (pc' := 52) rfl rfl (y := (nI 1)) rfl ex4_49 (lo' := [some (.inr (.inr th)), some (.inl a0), some (.inl a1), some (.inl a2), some (.inl x4_49)]) rfl rfl ?_
        refine go_goto (pc' := 11) rfl rfl ?_
        exact (lp_backE h hk11 :)
      · replace h := o_t (Decidable.of_not_not h27) h
        refine go_aload_n (pc' := 31) rfl rfl rfl ?_
        refine go_iload (pc' := 33) rfl rfl rfl ?_
        refine go_iload_n (pc' := 34) rfl rfl rfl ?_
        refine go_iload_n (pc' := 35) rfl rfl rfl ?_
        obtain ⟨r_35, q_35, h⟩ := o_b1E h
        refine go_callV (pc' := 38) (B' := (0, 0)) (st' := [.inl r_35]) rfl rfl (Or.inl (by decide)) rfl rfl hth (md_226 (by omega) hth q_35) rfl rfl rfl ?_
        refine go_if_eq (pt := 49) (pc' := 41) rfl rfl rfl (fun h38 => ?_) (fun h38 => ?_)
        · replace h := o_t h38 h
          obtain ⟨x4_49, ex4_49, h⟩ := o_b1E h
          refine go_iincE (pc' := 52) rfl rfl (y := (nI 1)) rfl ex4_49 (lo' := [some (.inr (.inr th)), some (.inl a0), some (.inl a1), some (.inl a2), some (.inl x4_49)]) rfl rfl ?_
          refine go_goto (pc' := 11) rfl rfl ?_
          exact (lp_backE h hk11 :)
        · replace h := o_f h38 h
          refine go_aload_n (pc' := 42) rfl rfl rfl ?_
          refine go_getR (pc' := 45) rfl rfl hth rfl ?_
          refine go_iload (pc' := 47) rfl rfl rfl ?_
          refine go_iconst (pc' := 48) (v := (nI 0)) rfl rfl rfl ?_
          obtain ⟨g0, h⟩ := o_gE h
          obtain ⟨I_48, eI_48, h⟩ := o_b1E h
          refine go_iastore (pc' := 49) rfl (o_inK g0) (o_inB g0) rfl ?_
          refine go_ndMI eI_48 ?_
          obtain ⟨x4_49, ex4_49, h⟩ := o_b1E h
          refine go_iincE (pc' := 52) rfl rfl (y := (nI 1)) rfl ex4_49 (lo' := [some (.inr (.inr th)), some (.inl a0), some (.inl a1), some (.inl a2), some (.inl x4_49)]) rfl rfl ?_
          refine go_goto (pc' := 11) rfl rfl ?_
          exact (lp_backE h hk11 :))
  exact lo11 _ ((nI 0), I_5) hl11 
def m_228_x9_46 (Ix_46 : ai_I) : Option (ai_I) :=
  some Ix_46
def m_228_b9 (th : Nat) (a3 : Int32) (Rf : ai_R) (G : ai_G) (v5_9 : Int32) (I_9 : ai_I) : Option ((Int32 × ai_I) ⊕ ai_I) :=
  if a3 ≤ v5_9 then (some (Sum.inr I_9)) else (o_g (o_in G 13 (Rf th 15) v5_9) (o_g (o_in G 13 (Rf th 15) (v5_9 + (nI 1))) (o_g (o_in G 13 (Rf th 16) (I_9 (Rf th 15) v5_9.toNatClampNeg)) (o_b1 (some (va_up I_9 (Rf th 16) (va_up (I_9 (Rf th 16)) (I_9 (Rf th 15) v5_9.toNatClampNeg).toNatClampNeg (I_9 (Rf th 15) (v5_9 + (nI 1)).toNatClampNeg)))) (fun I_36 => o_b1 (some (v5_9 + (nI 2))) (fun x5_41 => some (Sum.inl (x5_41, I_36))))))))
/-- PricedBasesModel.makesTold(IIII)V -/
def m_228 (th : Nat) (a0 : Int32) (a1 : Int32) (a2 : Int32) (a3 : Int32) (I : ai_I) (Rf : ai_R) (G : ai_G) : Option (ai_I) :=
  o_b1 (m_219 th a0 a1 I Rf G) (fun I_3 => o_s1 (lp (fun s => m_228_b9 th a3 Rf G s.1 s.2) o_N (a2, I_3)) (fun t => m_228_x9_46 t))
theorem md_228 {d : Nat} {I : ai_I} {J : ai_J} {Rf : ai_R} {G : ai_G} {th : Nat} {a0 : Int32} {a1 : Int32} {a2 : Int32} {a3 : Int32} {I1 : ai_I} (hd : 2 ≤ d) (hth : G.1 th = 11) (h : m_228 th a0 a1 a2 a3 I Rf G = some I1) : ai_Cl si_t si_ms d 228 [.inr (.inr th), .inl a0, .inl a1, .inl a2, .inl a3] I J Rf G none I1 J Rf G := by
  obtain ⟨e, rfl⟩ : ∃ e, d = e + 1 := ⟨d - 1, by omega⟩
  unfold m_228 at h
  refine sp_in (lo := [some (.inr (.inr th)), some (.inl a0), some (.inl a1), some (.inl a2), some (.inl a3), none]) (B := (0, 0)) rfl (Nat.le_of_ble_eq_true rfl) rfl rfl ?_
  refine go_aload_n (pc' := 1) rfl rfl rfl ?_
  refine go_iload_n (pc' := 2) rfl rfl rfl ?_
  refine go_iload_n (pc' := 3) rfl rfl rfl ?_
  obtain ⟨I_3, q_3, h⟩ := o_b1E h
  refine go_callV (pc' := 6) (B' := (0, 0)) (st' := []) rfl rfl (Or.inl (by decide)) rfl rfl hth (md_219 (by omega) hth q_3) rfl rfl rfl ?_
  refine go_iload_n (pc' := 7) rfl rfl rfl ?_
  refine go_istore (pc' := 9) (lo' := [some (.inr (.inr th)), some (.inl a0), some (.inl a1), some (.inl a2), some (.inl a3), some (.inl a2)]) rfl rfl rfl ?_
  obtain ⟨q9, hl9, hc9_46⟩ := o_s1E h
  have ex9_46 : ∀ (Ix_46 : ai_I) (z5_x46 : Option ai_V), Ix_46 = q9 → ai_Go si_t (11, false, 9, cd_228) (ai_Cl si_t si_ms e) (sp_Q none I1 J Rf G) 46 [some (.inr (.inr th)), some (.inl a0), some (.inl a1), some (.inl a2), some (.inl a3), z5_x46] [] (0, 0) Ix_46 J Rf G := by
    intro Ix_46 z5_x46 hq
    have h : m_228_x9_46 Ix_46 = some I1 := hc9_46 Ix_46 hq.symm
    unfold m_228_x9_46 at h
    cases h
    exact go_vret rfl (rfl) ⟨rfl, rfl, rfl, rfl, rfl⟩
  have lo9 : ∀ n s, lp (fun s => m_228_b9 th a3 Rf G s.1 s.2) n s = some q9 → (fun s => ai_Go si_t (11, false, 9, cd_228) (ai_Cl si_t si_ms e) (sp_Q none I1 J Rf G) 9 [some (.inr (.inr th)), some (.inl a0), some (.inl a1), some (.inl a2), some (.inl a3), some (.inl s.1)] [] (0, 0) s.2 J Rf G) s := lp_go (fun s x9 hx hk9 => by
    obtain ⟨v5_9, I_9⟩ := s
    have h : m_228_b9 th a3 Rf G v5_9 I_9 = some x9 := hx
    clear hx
    show ai_Go si_t (11, false, 9, cd_228) (ai_Cl si_t si_ms e) (sp_Q none I1 J Rf G) 9 [some (.inr (.inr th)), some (.inl a0), some (.inl a1), some (.inl a2), some (.inl a3), some (.inl v5_9)] [] (0, 0) I_9 J Rf G
    unfold m_228_b9 at h
    refine go_iload (pc' := 11) rfl rfl rfl ?_
    refine go_iload (pc' := 13) rfl rfl rfl ?_
    refine go_icmp_ge (pt := 46) (pc' := 16) rfl rfl rfl (fun h13 => ?_) (fun h13 => ?_)
    · replace h := o_t h13 h
      exact ex9_46 _ (some (.inl v5_9)) (lp_exitE h hk9)
    · replace h := o_f h13 h
      refine go_aload_n (pc' := 17) rfl rfl rfl ?_
      refine go_getR (pc' := 20) rfl rfl hth rfl ?_
      refine go_aload_n (pc' := 21) rfl rfl rfl ?_
      refine go_getR (pc' := 24) rfl rfl hth rfl ?_
      refine go_iload (pc' := 26) rfl rfl rfl ?_
      obtain ⟨g0, h⟩ := o_gE h
      refine go_iaload (pc' := 27) rfl (o_inK g0) (o_inB g0) rfl ?_
      refine go_aload_n (pc' := 28) rfl rfl rfl ?_
      refine go_getR (pc' := 31) rfl rfl hth rfl ?_
      refine go_iload (pc' := 33) rfl rfl rfl ?_
      refine go_iconst (pc' := 34) (v := (nI 1)) rfl rfl rfl ?_
      refine go_iadd (pc' := 35) rfl rfl ?_
      obtain ⟨g1, h⟩ := o_gE h
      refine go_iaload (pc' := 36) rfl (o_inK g1) (o_inB g1) rfl ?_
      obtain ⟨g2, h⟩ := o_gE h
      obtain ⟨I_36, eI_36, h⟩ := o_b1E h
      refine go_iastore (pc' := 37) rfl (o_inK g2) (o_inB g2) rfl ?_
      refine go_ndMI eI_36 ?_
      refine go_iload (pc' := 39) rfl rfl rfl ?_
      refine go_iconst (pc' := 40) (v := (nI 2)) rfl rfl rfl ?_
      refine go_iadd (pc' := 41) rfl rfl ?_
      obtain ⟨x5_41, ex5_41, h⟩ := o_b1E h
      refine go_ndI ex5_41 ?_
      refine go_istore (pc' := 43) (lo' := [some (.inr (.inr th)), some (.inl a0), some (.inl a1), some (.inl a2), some (.inl a3), some (.inl x5_41)]) rfl rfl rfl ?_
      refine go_goto (pc' := 9) rfl rfl ?_
      exact (lp_backE h hk9 :))
  exact lo9 _ (a2, I_3) hl9 
def m_229_x2_27 (Ix_27 : ai_I) : Option (ai_I) :=
  some Ix_27
def m_229_b2 (th : Nat) (Rf : ai_R) (G : ai_G) (v1_2 : Int32) (I_2 : ai_I) : Option ((Int32 × ai_I) ⊕ ai_I) :=
  if (nI 256) ≤ v1_2 then (some (Sum.inr I_2)) else (o_g (o_in G 13 (Rf th 16) v1_2) (o_g (o_in G 13 (Rf th 17) v1_2) (o_b1 (some (va_up I_2 (Rf th 17) (va_up (I_2 (Rf th 17)) v1_2.toNatClampNeg (I_2 (Rf th 16) v1_2.toNatClampNeg)))) (fun I_20 => o_b1 (some (v1_2 + (nI 1))) (fun x1_21 => some (Sum.inl (x1_21, I_20)))))))
/-- PricedBasesModel.swaps()V -/
def m_229 (th : Nat) (I : ai_I) (Rf : ai_R) (G : ai_G) : Option (ai_I) :=
  o_s1 (lp (fun s => m_229_b2 th Rf G s.1 s.2) o_N ((nI 0), I)) (fun t => m_229_x2_27 t)
theorem md_229 {d : Nat} {I : ai_I} {J : ai_J} {Rf : ai_R} {G : ai_G} {th : Nat} {I1 : ai_I} (hd : 1 ≤ d) (hth : G.1 th = 11) (h : m_229 th I Rf G = some I1) : ai_Cl si_t si_ms d 229 [.inr (.inr th)] I J Rf G none I1 J Rf G := by
  obtain ⟨e, rfl⟩ : ∃ e, d = e + 1 := ⟨d - 1, by omega⟩
  unfold m_229 at h
  refine sp_in (lo := [some (.inr (.inr th)), none]) (B := (0, 0)) rfl (Nat.le_of_ble_eq_true rfl) rfl rfl ?_
  refine go_iconst (pc' := 1) (v := (nI 0)) rfl rfl rfl ?_
  refine go_istore_n (pc' := 2) (lo' := [some (.inr (.inr th)), some (.inl (nI 0))]) rfl rfl rfl ?_
  obtain ⟨q2, hl2, hc2_27⟩ := o_s1E h
  have ex2_27 : ∀ (Ix_27 : ai_I) (z1_x27 : Option ai_V), Ix_27 = q2 → ai_Go si_t (11, false, 9, cd_229) (ai_Cl si_t si_ms e) (sp_Q none I1 J Rf G) 27 [some (.inr (.inr th)), z1_x27] [] (0, 0) Ix_27 J Rf G := by
    intro Ix_27 z1_x27 hq
    have h : m_229_x2_27 Ix_27 = some I1 := hc2_27 Ix_27 hq.symm
    unfold m_229_x2_27 at h
    cases h
    exact go_vret rfl (rfl) ⟨rfl, rfl, rfl, rfl, rfl⟩
  have lo2 : ∀ n s, lp (fun s => m_229_b2 th Rf G s.1 s.2) n s = some q2 → (fun s => ai_Go si_t (11, false, 9, cd_229) (ai_Cl si_t si_ms e) (sp_Q none I1 J Rf G) 2 [some (.inr (.inr th)), some (.inl s.1)] [] (0, 0) s.2 J Rf G) s := lp_go (fun s x2 hx hk2 => by
    obtain ⟨v1_2, I_2⟩ := s
    have h : m_229_b2 th Rf G v1_2 I_2 = some x2 := hx
    clear hx
    show ai_Go si_t (11, false, 9, cd_229) (ai_Cl si_t si_ms e) (sp_Q none I1 J Rf G) 2 [some (.inr (.inr th)), some (.inl v1_2)] [] (0, 0) I_2 J Rf G
    unfold m_229_b2 at h
    refine go_iload_n (pc' := 3) rfl rfl rfl ?_
    refine go_sipush (pc' := 6) (v := (nI 256)) rfl rfl rfl ?_
    refine go_icmp_ge (pt := 27) (pc' := 9) rfl rfl rfl (fun h6 => ?_) (fun h6 => ?_)
    · replace h := o_t h6 h
      exact ex2_27 _ (some (.inl v1_2)) (lp_exitE h hk2)
    · replace h := o_f h6 h
      refine go_aload_n (pc' := 10) rfl rfl rfl ?_
      refine go_getR (pc' := 13) rfl rfl hth rfl ?_
      refine go_iload_n (pc' := 14) rfl rfl rfl ?_
      refine go_aload_n (pc' := 15) rfl rfl rfl ?_
      refine go_getR (pc' := 18) rfl rfl hth rfl ?_
      refine go_iload_n (pc' := 19) rfl rfl rfl ?_
      obtain ⟨g0, h⟩ := o_gE h
      refine go_iaload (pc' := 20) rfl (o_inK g0) (o_inB g0) rfl ?_
      obtain ⟨g1, h⟩ := o_gE h
      obtain ⟨I_20, eI_20, h⟩ := o_b1E h
      refine go_iastore (pc' := 21) rfl (o_inK g1) (o_inB g1) rfl ?_
      refine go_ndMI eI_20 ?_
      obtain ⟨x1_21, ex1_21, h⟩ := o_b1E h
      refine go_iincE (pc' := 24) rfl rfl (y := (nI 1)) rfl ex1_21 (lo' := [some (.inr (.inr th)), some (.inl x1_21)]) rfl rfl ?_
      refine go_goto (pc' := 2) rfl rfl ?_
      exact (lp_backE h hk2 :))
  exact lo2 _ ((nI 0), I) hl2 
def m_230_x15_40 (th : Nat) (Ix_40 : ai_I) : Option (ai_I) :=
  o_b1 (some (va_up Ix_40 th (va_up (Ix_40 th) 19 ((Ix_40 th 18) - (Ix_40 th 19))))) (fun I_50 => some I_50)
def m_230_b15 (th : Nat) (Rf : ai_R) (G : ai_G) (x1_12 : Int32) (v2_15 : Int32) (I_15 : ai_I) : Option ((Int32 × ai_I) ⊕ ai_I) :=
  if x1_12 < v2_15 then (some (Sum.inr I_15)) else (o_g (o_in G 13 (Rf th 17) (x1_12 ^^^ v2_15)) (o_g (o_in G 13 (Rf th 16) v2_15) (o_b1 (some (va_up I_15 (Rf th 16) (va_up (I_15 (Rf th 16)) v2_15.toNatClampNeg (I_15 (Rf th 17) (x1_12 ^^^ v2_15).toNatClampNeg)))) (fun I_33 => o_b1 (some (v2_15 + (nI 1))) (fun x2_34 => some (Sum.inl (x2_34, I_33)))))))
/-- PricedBasesModel.turnsOver()V -/
def m_230 (th : Nat) (I : ai_I) (Rf : ai_R) (G : ai_G) : Option (ai_I) :=
  o_b1 (m_229 th I Rf G) (fun I_1 => o_b1 (some (((nI 1) <<< ((I_1 th 18) &&& 31)) - (nI 1))) (fun x1_12 => o_s1 (lp (fun s => m_230_b15 th Rf G x1_12 s.1 s.2) o_N ((nI 0), I_1)) (fun t => m_230_x15_40 th t)))
theorem md_230 {d : Nat} {I : ai_I} {J : ai_J} {Rf : ai_R} {G : ai_G} {th : Nat} {I1 : ai_I} (hd : 2 ≤ d) (hth : G.1 th = 11) (h : m_230 th I Rf G = some I1) : ai_Cl si_t si_ms d 230 [.inr (.inr th)] I J Rf G none I1 J Rf G := by
  obtain ⟨e, rfl⟩ : ∃ e, d = e + 1 := ⟨d - 1, by omega⟩
  unfold m_230 at h
  refine sp_in (lo := [some (.inr (.inr th)), none, none]) (B := (0, 0)) rfl (Nat.le_of_ble_eq_true rfl) rfl rfl ?_
  refine go_aload_n (pc' := 1) rfl rfl rfl ?_
  obtain ⟨I_1, q_1, h⟩ := o_b1E h
  refine go_callV (pc' := 4) (B' := (0, 0)) (st' := []) rfl rfl (Or.inl (by decide)) rfl rfl hth (md_229 (by omega) hth q_1) rfl rfl rfl ?_
  refine go_iconst (pc' := 5) (v := (nI 1)) rfl rfl rfl ?_
  refine go_aload_n (pc' := 6) rfl rfl rfl ?_
  refine go_getI (pc' := 9) rfl rfl (by decide) (by decide) hth rfl ?_
  refine go_ishl (pc' := 10) rfl rfl ?_
  refine go_iconst (pc' := 11) (v := (nI 1)) rfl rfl rfl ?_
  refine go_isub (pc' := 12) rfl rfl ?_
  obtain ⟨x1_12, ex1_12, h⟩ := o_b1E h
  refine go_ndI ex1_12 ?_
  refine go_istore_n (pc' := 13) (lo' := [some (.inr (.inr th)), some (.inl x1_12), none]) rfl rfl rfl ?_
  refine go_iconst (pc' := 14) (v := (nI 0)) rfl rfl rfl ?_
  refine go_istore_n (pc' := 15) (lo' := [some (.inr (.inr th)), some (.inl x1_12), some (.inl (nI 0))]) rfl rfl rfl ?_
  obtain ⟨q15, hl15, hc15_40⟩ := o_s1E h
  have ex15_40 : ∀ (Ix_40 : ai_I) (z2_x40 : Option ai_V), Ix_40 = q15 → ai_Go si_t (11, false, 9, cd_230) (ai_Cl si_t si_ms e) (sp_Q none I1 J Rf G) 40 [some (.inr (.inr th)), some (.inl x1_12), z2_x40] [] (0, 0) Ix_40 J Rf G := by
    intro Ix_40 z2_x40 hq
    have h : m_230_x15_40 th Ix_40 = some I1 := hc15_40 Ix_40 hq.symm
    unfold m_230_x15_40 at h
    refine go_aload_n (pc' := 41) rfl rfl rfl ?_
    refine go_aload_n (pc' := 42) rfl rfl rfl ?_
    refine go_getI (pc' := 45) rfl rfl (by decide) (by decide) hth rfl ?_
    refine go_aload_n (pc' := 46) rfl rfl rfl ?_
    refine go_getI (pc' := 49) rfl rfl (by decide) (by decide) hth rfl ?_
    refine go_isub (pc' := 50) rfl rfl ?_
    obtain ⟨I_50, eI_50, h⟩ := o_b1E h
    refine go_putI (pc' := 53) rfl rfl (fun h => by cases h) hth rfl ?_
    refine go_ndMI eI_50 ?_
    cases h
    exact go_vret rfl (rfl) ⟨rfl, rfl, rfl, rfl, rfl⟩
  have lo15 : ∀ n s, lp (fun s => m_230_b15 th Rf G x1_12 s.1 s.2) n s = some q15 → (fun s => ai_Go si_t (11, false, 9, cd_230) (ai_Cl si_t si_ms e) (sp_Q none I1 J Rf G) 15 [some (.inr (.inr th)), some (.inl x1_12), some (.inl s.1)] [] (0, 0) s.2 J Rf G) s := lp_go (fun s x15 hx hk15 => by
    obtain ⟨v2_15, I_15⟩ := s
    have h : m_230_b15 th Rf G x1_12 v2_15 I_15 = some x15 := hx
    clear hx
    show ai_Go si_t (11, false, 9, cd_230) (ai_Cl si_t si_ms e) (sp_Q none I1 J Rf G) 15 [some (.inr (.inr th)), some (.inl x1_12), some (.inl v2_15)] [] (0, 0) I_15 J Rf G
    unfold m_230_b15 at h
    refine go_iload_n (pc' := 16) rfl rfl rfl ?_
    refine go_iload_n (pc' := 17) rfl rfl rfl ?_
    refine go_icmp_gt (pt := 40) (pc' := 20) rfl rfl rfl (fun h17 => ?_) (fun h17 => ?_)
    · replace h := o_t h17 h
      exact ex15_40 _ (some (.inl v2_15)) (lp_exitE h hk15)
    · replace h := o_f h17 h
      refine go_aload_n (pc' := 21) rfl rfl rfl ?_
      refine go_getR (pc' := 24) rfl rfl hth rfl ?_
      refine go_iload_n (pc' := 25) rfl rfl rfl ?_
      refine go_aload_n (pc' := 26) rfl rfl rfl ?_
      refine go_getR (pc' := 29) rfl rfl hth rfl ?_
      refine go_iload_n (pc' := 30) rfl rfl rfl ?_
      refine go_iload_n (pc' := 31) rfl rfl rfl ?_
      refine go_ixor (pc' := 32) rfl rfl ?_
      obtain ⟨g0, h⟩ := o_gE h
      refine go_iaload (pc' := 33) rfl (o_inK g0) (o_inB g0) rfl ?_
      obtain ⟨g1, h⟩ := o_gE h
      obtain ⟨I_33, eI_33, h⟩ := o_b1E h
      refine go_iastore (pc' := 34) rfl (o_inK g1) (o_inB g1) rfl ?_
      refine go_ndMI eI_33 ?_
      obtain ⟨x2_34, ex2_34, h⟩ := o_b1E h
      refine go_iincE (pc' := 37) rfl rfl (y := (nI 1)) rfl ex2_34 (lo' := [some (.inr (.inr th)), some (.inl x1_12), some (.inl x2_34)]) rfl rfl ?_
      refine go_goto (pc' := 15) rfl rfl ?_
      exact (lp_backE h hk15 :))
  exact lo15 _ ((nI 0), I_1) hl15 
/-- PricedBasesModel.without(II)I -/
def m_231 (a0 : Int32) (a1 : Int32) : Option (Int32) :=
  o_b1 (some (a0 &&& (((nI 1) <<< (a1 &&& 31)) - (nI 1)))) (fun x2_7 => some (x2_7 ||| ((a0 >>> ((a1 + (nI 1)) &&& 31)) <<< (a1 &&& 31))))
theorem md_231 {d : Nat} {I : ai_I} {J : ai_J} {Rf : ai_R} {G : ai_G} {a0 : Int32} {a1 : Int32} {r : Int32} (hd : 1 ≤ d) (h : m_231 a0 a1 = some r) : ai_Cl si_t si_ms d 231 [.inl a0, .inl a1] I J Rf G (some (.inl r)) I J Rf G := by
  obtain ⟨e, rfl⟩ : ∃ e, d = e + 1 := ⟨d - 1, by omega⟩
  unfold m_231 at h
  refine sp_in (lo := [some (.inl a0), some (.inl a1), none]) (B := (0, 0)) rfl (Nat.le_of_ble_eq_true rfl) rfl rfl ?_
  refine go_iload_n (pc' := 1) rfl rfl rfl ?_
  refine go_iconst (pc' := 2) (v := (nI 1)) rfl rfl rfl ?_
  refine go_iload_n (pc' := 3) rfl rfl rfl ?_
  refine go_ishl (pc' := 4) rfl rfl ?_
  refine go_iconst (pc' := 5) (v := (nI 1)) rfl rfl rfl ?_
  refine go_isub (pc' := 6) rfl rfl ?_
  refine go_iand (pc' := 7) rfl rfl ?_
  obtain ⟨x2_7, ex2_7, h⟩ := o_b1E h
  refine go_ndI ex2_7 ?_
  refine go_istore_n (pc' := 8) (lo' := [some (.inl a0), some (.inl a1), some (.inl x2_7)]) rfl rfl rfl ?_
  refine go_iload_n (pc' := 9) rfl rfl rfl ?_
  refine go_iload_n (pc' := 10) rfl rfl rfl ?_
  refine go_iload_n (pc' := 11) rfl rfl rfl ?_
  refine go_iconst (pc' := 12) (v := (nI 1)) rfl rfl rfl ?_
  refine go_iadd (pc' := 13) rfl rfl ?_
  refine go_ishr (pc' := 14) rfl rfl ?_
  refine go_iload_n (pc' := 15) rfl rfl rfl ?_
  refine go_ishl (pc' := 16) rfl rfl ?_
  refine go_ior (pc' := 17) rfl rfl ?_
  cases h
  exact go_iret rfl (trivial) ⟨rfl, rfl, rfl, rfl, rfl⟩
def m_232_x33_82 (Ix_82 : ai_I) : Option (ai_I) :=
  some Ix_82
def m_232_b33 (th : Nat) (a0 : Int32) (a1 : Int32) (Rf : ai_R) (G : ai_G) (v3_33 : Int32) (I_33 : ai_I) : Option ((Int32 × ai_I) ⊕ ai_I) :=
  if (nI 256) ≤ v3_33 then (some (Sum.inr I_33)) else (o_g (o_in G 13 (Rf th 17) v3_33) (if (I_33 (Rf th 17) v3_33.toNatClampNeg) = (-2147483648 : Int32) then (o_b1 (some (v3_33 + (nI 1))) (fun x3_76 => some (Sum.inl (x3_76, I_33)))) else (o_b1 (m_192 v3_33 a0) (fun r_53 => if r_53 = a1 then (o_b1 (m_231 v3_33 a0) (fun r_66 => o_g (o_in G 13 (Rf th 17) v3_33) (o_g (o_in G 13 (Rf th 16) r_66) (o_b1 (some (va_up I_33 (Rf th 16) (va_up (I_33 (Rf th 16)) r_66.toNatClampNeg (I_33 (Rf th 17) v3_33.toNatClampNeg)))) (fun I_75 => o_b1 (some (v3_33 + (nI 1))) (fun x3_76 => some (Sum.inl (x3_76, I_75)))))))) else (o_b1 (some (v3_33 + (nI 1))) (fun x3_76 => some (Sum.inl (x3_76, I_33))))))))
def m_232_j28 (th : Nat) (a0 : Int32) (a1 : Int32) (Rf : ai_R) (G : ai_G) (I_1 : ai_I) (t2_28 : Int32) : Option (ai_I) :=
  o_b1 (m_219 th ((I_1 th 18) - (nI 1)) t2_28 I_1 Rf G) (fun I_28 => o_s1 (lp (fun s => m_232_b33 th a0 a1 Rf G s.1 s.2) o_N ((nI 0), I_28)) (fun t => m_232_x33_82 t))
/-- PricedBasesModel.leaves(IZ)V -/
def m_232 (th : Nat) (a0 : Int32) (a1 : Int32) (I : ai_I) (Rf : ai_R) (G : ai_G) : Option (ai_I) :=
  o_b1 (m_229 th I Rf G) (fun I_1 => if a1 = 0 then (m_232_j28 th a0 a1 Rf G I_1 (I_1 th 19)) else (m_232_j28 th a0 a1 Rf G I_1 ((I_1 th 19) - (nI 1))))
theorem md_232 {d : Nat} {I : ai_I} {J : ai_J} {Rf : ai_R} {G : ai_G} {th : Nat} {a0 : Int32} {a1 : Int32} {I1 : ai_I} (hd : 2 ≤ d) (hth : G.1 th = 11) (h : m_232 th a0 a1 I Rf G = some I1) : ai_Cl si_t si_ms d 232 [.inr (.inr th), .inl a0, .inl a1] I J Rf G none I1 J Rf G := by
  obtain ⟨e, rfl⟩ : ∃ e, d = e + 1 := ⟨d - 1, by omega⟩
  unfold m_232 at h
  refine sp_in (lo := [some (.inr (.inr th)), some (.inl a0), some (.inl a1), none]) (B := (0, 0)) rfl (Nat.le_of_ble_eq_true rfl) rfl rfl ?_
  refine go_aload_n (pc' := 1) rfl rfl rfl ?_
  obtain ⟨I_1, q_1, h⟩ := o_b1E h
  refine go_callV (pc' := 4) (B' := (0, 0)) (st' := []) rfl rfl (Or.inl (by decide)) rfl rfl hth (md_229 (by omega) hth q_1) rfl rfl rfl ?_
  refine go_aload_n (pc' := 5) rfl rfl rfl ?_
  refine go_aload_n (pc' := 6) rfl rfl rfl ?_
  refine go_getI (pc' := 9) rfl rfl (by decide) (by decide) hth rfl ?_
  refine go_iconst (pc' := 10) (v := (nI 1)) rfl rfl rfl ?_
  refine go_isub (pc' := 11) rfl rfl ?_
  refine go_iload_n (pc' := 12) rfl rfl rfl ?_
  have jn28 : ∀ (t2_28 : Int32), m_232_j28 th a0 a1 Rf G I_1 t2_28 = some I1 → ai_Go si_t (11, false, 9, cd_232) (ai_Cl si_t si_ms e) (sp_Q none I1 J Rf G) 28 [some (.inr (.inr th)), some (.inl a0), some (.inl a1), none] [.inl t2_28, .inl ((I_1 th 18) - (nI 1)), .inr (.inr th)] (0, 0) I_1 J Rf G := by
    intro t2_28 h
    unfold m_232_j28 at h
    obtain ⟨I_28, q_28, h⟩ := o_b1E h
    refine go_callV (pc' := 31) (B' := (0, 0)) (st' := []) rfl rfl (Or.inl (by decide)) rfl rfl hth (md_219 (by omega) hth q_28) rfl rfl rfl ?_
    refine go_iconst (pc' := 32) (v := (nI 0)) rfl rfl rfl ?_
    refine go_istore_n (pc' := 33) (lo' := [some (.inr (.inr th)), some (.inl a0), some (.inl a1), some (.inl (nI 0))]) rfl rfl rfl ?_
    obtain ⟨q33, hl33, hc33_82⟩ := o_s1E h
    have ex33_82 : ∀ (Ix_82 : ai_I) (z3_x82 : Option ai_V), Ix_82 = q33 → ai_Go si_t (11, false, 9, cd_232) (ai_Cl si_t si_ms e) (sp_Q none I1 J Rf G) 82 [some (.inr (.inr th)), some (.inl a0), some (.inl a1), z3_x82] [] (0, 0) Ix_82 J Rf G := by
      intro Ix_82 z3_x82 hq
      have h : m_232_x33_82 Ix_82 = some I1 := hc33_82 Ix_82 hq.symm
      unfold m_232_x33_82 at h
      cases h
      exact go_vret rfl (rfl) ⟨rfl, rfl, rfl, rfl, rfl⟩
    have lo33 : ∀ n s, lp (fun s => m_232_b33 th a0 a1 Rf G s.1 s.2) n s = some q33 → (fun s => ai_Go si_t (11, false, 9, cd_232) (ai_Cl si_t si_ms e) (sp_Q none I1 J Rf G) 33 [some (.inr (.inr th)), some (.inl a0), some (.inl a1), some (.inl s.1)] [] (0, 0) s.2 J Rf G) s := lp_go (fun s x33 hx hk33 => by
      obtain ⟨v3_33, I_33⟩ := s
      have h : m_232_b33 th a0 a1 Rf G v3_33 I_33 = some x33 := hx
      clear hx
      show ai_Go si_t (11, false, 9, cd_232) (ai_Cl si_t si_ms e) (sp_Q none I1 J Rf G) 33 [some (.inr (.inr th)), some (.inl a0), some (.inl a1), some (.inl v3_33)] [] (0, 0) I_33 J Rf G
      unfold m_232_b33 at h
      refine go_iload_n (pc' := 34) rfl rfl rfl ?_
      refine go_sipush (pc' := 37) (v := (nI 256)) rfl rfl rfl ?_
      refine go_icmp_ge (pt := 82) (pc' := 40) rfl rfl rfl (fun h37 => ?_) (fun h37 => ?_)
      · replace h := o_t h37 h
        exact ex33_82 _ (some (.inl v3_33)) (lp_exitE h hk33)
      · replace h := o_f h37 h
        refine go_aload_n (pc' := 41) rfl rfl rfl ?_
        refine go_getR (pc' := 44) rfl rfl hth rfl ?_
        refine go_iload_n (pc' := 45) rfl rfl rfl ?_
        obtain ⟨g0, h⟩ := o_gE h
        refine go_iaload (pc' := 46) rfl (o_inK g0) (o_inB g0) rfl ?_
        refine go_ldc (pc' := 48) (v := .inl (-2147483648 : Int32)) rfl rfl rfl ?_
        refine go_icmp_eq (pt := 76) (pc' := 51) rfl rfl rfl (fun h48 => ?_) (fun h48 => ?_)
        · replace h := o_t h48 h
          obtain ⟨x3_76, ex3_76, h⟩ := o_b1E h
          refine go_iincE (pc' := 79) rfl rfl (y := (nI 1)) rfl ex3_76 (lo' := [some (.inr (.inr th)), some (.inl a0), some (.inl a1), some (.inl x3_76)]) rfl rfl ?_
          refine go_goto (pc' := 33) rfl rfl ?_
          exact (lp_backE h hk33 :)
        · replace h := o_f h48 h
          refine go_iload_n (pc' := 52) rfl rfl rfl ?_
          refine go_iload_n (pc' := 53) rfl rfl rfl ?_
          obtain ⟨r_53, q_53, h⟩ := o_b1E h
          refine go_callS (pc' := 56) (B' := (0, 0)) (st' := [.inl r_53]) rfl rfl (Or.inl (by decide)) rfl rfl trivial (md_192 (by omega) q_53) rfl rfl rfl ?_
          refine go_iload_n (pc' := 57) rfl rfl rfl ?_
          refine go_icmp_ne (pt := 76) (pc' := 60) rfl rfl rfl (fun h57 => ?_) (fun h57 => ?_)
          · replace h := o_f h57 h
            obtain ⟨x3_76, ex3_76, h⟩ := o_b1E h
            refine go_iincE (pc' := 79) rfl rfl (y := (nI 1)) rfl ex3_76 (lo' := [some (.inr (.inr th)), some (.inl a0), some (.inl a1), some (.inl x3_76)]) rfl rfl ?_
            refine go_goto (pc' := 33) rfl rfl ?_
            exact (lp_backE h hk33 :)
          · replace h := o_t (Decidable.of_not_not h57) h
            refine go_aload_n (pc' := 61) rfl rfl rfl ?_
            refine go_getR (pc' := 64) rfl rfl hth rfl ?_
            refine go_iload_n (pc' := 65) rfl rfl rfl ?_
            refine go_iload_n (pc' := 66) rfl rfl rfl ?_
            obtain ⟨r_66, q_66, h⟩ := o_b1E h
            refine go_callS (pc' := 69) (B' := (0, 0)) (st' := [.inl r_66, .inr (.inr (Rf th 16))]) rfl rfl (Or.inl (by decide)) rfl rfl trivial (md_231 (by omega) q_66) rfl rfl rfl ?_
            refine go_aload_n (pc' := 70) rfl rfl rfl ?_
            refine go_getR (pc' := 73) rfl rfl hth rfl ?_
            refine go_iload_n (pc' := 74) rfl rfl rfl ?_
            obtain ⟨g1, h⟩ := o_gE h
            refine go_iaload (pc' := 75) rfl (o_inK g1) (o_inB g1) rfl ?_
            obtain ⟨g2, h⟩ := o_gE h
            obtain ⟨I_75, eI_75, h⟩ := o_b1E h
            refine go_iastore (pc' := 76) rfl (o_inK g2) (o_inB g2) rfl ?_
            refine go_ndMI eI_75 ?_
            obtain ⟨x3_76, ex3_76, h⟩ := o_b1E h
            refine go_iincE (pc' := 79) rfl rfl (y := (nI 1)) rfl ex3_76 (lo' := [some (.inr (.inr th)), some (.inl a0), some (.inl a1), some (.inl x3_76)]) rfl rfl ?_
            refine go_goto (pc' := 33) rfl rfl ?_
            exact (lp_backE h hk33 :))
    exact lo33 _ ((nI 0), I_28) hl33 
  refine go_if_eq (pt := 24) (pc' := 15) rfl rfl rfl (fun h12 => ?_) (fun h12 => ?_)
  · replace h := o_t h12 h
    refine go_aload_n (pc' := 25) rfl rfl rfl ?_
    refine go_getI (pc' := 28) rfl rfl (by decide) (by decide) hth rfl ?_
    exact jn28 (I_1 th 19) h
  · replace h := o_f h12 h
    refine go_aload_n (pc' := 16) rfl rfl rfl ?_
    refine go_getI (pc' := 19) rfl rfl (by decide) (by decide) hth rfl ?_
    refine go_iconst (pc' := 20) (v := (nI 1)) rfl rfl rfl ?_
    refine go_isub (pc' := 21) rfl rfl ?_
    refine go_goto (pc' := 28) rfl rfl ?_
    exact jn28 ((I_1 th 19) - (nI 1)) h
def m_233_x4_37 (w2_37 : Int32) : Option (Int32) :=
  some w2_37
def m_233_b4 (th : Nat) (a0 : Int32) (I : ai_I) (Rf : ai_R) (G : ai_G) (v2_4 : Int32) (v3_4 : Int32) : Option ((Int32 × Int32) ⊕ Int32) :=
  if (nI 8) ≤ v3_4 then (some (Sum.inr v2_4)) else (o_b1 (m_192 a0 v3_4) (fun r_12 => if r_12 = 0 then (o_b1 (some (v3_4 + (nI 1))) (fun x3_31 => some (Sum.inl (v2_4, x3_31)))) else (o_g (o_in G 13 (Rf th 0) ((nI 1032) + v3_4)) (o_b1 (some (v2_4 + (I (Rf th 0) ((nI 1032) + v3_4).toNatClampNeg))) (fun x2_30 => o_b1 (some (v3_4 + (nI 1))) (fun x3_31 => some (Sum.inl (x2_30, x3_31))))))))
/-- PricedBasesModel.pricesOf(I)I -/
def m_233 (th : Nat) (a0 : Int32) (I : ai_I) (Rf : ai_R) (G : ai_G) : Option (Int32) :=
  o_s1 (lp (fun s => m_233_b4 th a0 I Rf G s.1 s.2) o_N ((nI 0), (nI 0))) (fun t => m_233_x4_37 t)
theorem md_233 {d : Nat} {I : ai_I} {J : ai_J} {Rf : ai_R} {G : ai_G} {th : Nat} {a0 : Int32} {r : Int32} (hd : 2 ≤ d) (hth : G.1 th = 11) (h : m_233 th a0 I Rf G = some r) : ai_Cl si_t si_ms d 233 [.inr (.inr th), .inl a0] I J Rf G (some (.inl r)) I J Rf G := by
  obtain ⟨e, rfl⟩ : ∃ e, d = e + 1 := ⟨d - 1, by omega⟩
  unfold m_233 at h
  refine sp_in (lo := [some (.inr (.inr th)), some (.inl a0), none, none]) (B := (0, 0)) rfl (Nat.le_of_ble_eq_true rfl) rfl rfl ?_
  refine go_iconst (pc' := 1) (v := (nI 0)) rfl rfl rfl ?_
  refine go_istore_n (pc' := 2) (lo' := [some (.inr (.inr th)), some (.inl a0), some (.inl (nI 0)), none]) rfl rfl rfl ?_
  refine go_iconst (pc' := 3) (v := (nI 0)) rfl rfl rfl ?_
  refine go_istore_n (pc' := 4) (lo' := [some (.inr (.inr th)), some (.inl a0), some (.inl (nI 0)), some (.inl (nI 0))]) rfl rfl rfl ?_
  obtain ⟨q4, hl4, hc4_37⟩ := o_s1E h
  have ex4_37 : ∀ (w2_37 : Int32) (z3_x37 : Option ai_V), w2_37 = q4 → ai_Go si_t (11, false, 0, cd_233) (ai_Cl si_t si_ms e) (sp_Q (some (.inl r)) I J Rf G) 37 [some (.inr (.inr th)), some (.inl a0), some (.inl w2_37), z3_x37] [] (0, 0) I J Rf G := by
    intro w2_37 z3_x37 hq
    have h : m_233_x4_37 w2_37 = some r := hc4_37 w2_37 hq.symm
    unfold m_233_x4_37 at h
    refine go_iload_n (pc' := 38) rfl rfl rfl ?_
    cases h
    exact go_iret rfl (trivial) ⟨rfl, rfl, rfl, rfl, rfl⟩
  have lo4 : ∀ n s, lp (fun s => m_233_b4 th a0 I Rf G s.1 s.2) n s = some q4 → (fun s => ai_Go si_t (11, false, 0, cd_233) (ai_Cl si_t si_ms e) (sp_Q (some (.inl r)) I J Rf G) 4 [some (.inr (.inr th)), some (.inl a0), some (.inl s.1), some (.inl s.2)] [] (0, 0) I J Rf G) s := lp_go (fun s x4 hx hk4 => by
    obtain ⟨v2_4, v3_4⟩ := s
    have h : m_233_b4 th a0 I Rf G v2_4 v3_4 = some x4 := hx
    clear hx
    show ai_Go si_t (11, false, 0, cd_233) (ai_Cl si_t si_ms e) (sp_Q (some (.inl r)) I J Rf G) 4 [some (.inr (.inr th)), some (.inl a0), some (.inl v2_4), some (.inl v3_4)] [] (0, 0) I J Rf G
    unfold m_233_b4 at h
    refine go_iload_n (pc' := 5) rfl rfl rfl ?_
    refine go_bipush (pc' := 7) (v := (nI 8)) rfl rfl rfl ?_
    refine go_icmp_ge (pt := 37) (pc' := 10) rfl rfl rfl (fun h7 => ?_) (fun h7 => ?_)
    · replace h := o_t h7 h
      exact ex4_37 _ (some (.inl v3_4)) (lp_exitE h hk4)
    · replace h := o_f h7 h
      refine go_iload_n (pc' := 11) rfl rfl rfl ?_
      refine go_iload_n (pc' := 12) rfl rfl rfl ?_
      obtain ⟨r_12, q_12, h⟩ := o_b1E h
      refine go_callS (pc' := 15) (B' := (0, 0)) (st' := [.inl r_12]) rfl rfl (Or.inl (by decide)) rfl rfl trivial (md_192 (by omega) q_12) rfl rfl rfl ?_
      refine go_if_eq (pt := 31) (pc' := 18) rfl rfl rfl (fun h15 => ?_) (fun h15 => ?_)
      · replace h := o_t h15 h
        obtain ⟨x3_31, ex3_31, h⟩ := o_b1E h
        refine go_iincE (pc' := 34) rfl rfl (y := (nI 1)) rfl ex3_31 (lo' := [some (.inr (.inr th)), some (.inl a0), some (.inl v2_4), some (.inl x3_31)]) rfl rfl ?_
        refine go_goto (pc' := 4) rfl rfl ?_
        exact (lp_backE h hk4 :)
      · replace h := o_f h15 h
        refine go_iload_n (pc' := 19) rfl rfl rfl ?_
        refine go_aload_n (pc' := 20) rfl rfl rfl ?_
        refine go_getR (pc' := 23) rfl rfl hth rfl ?_
        refine go_sipush (pc' := 26) (v := (nI 1032)) rfl rfl rfl ?_
        refine go_iload_n (pc' := 27) rfl rfl rfl ?_
        refine go_iadd (pc' := 28) rfl rfl ?_
        obtain ⟨g0, h⟩ := o_gE h
        refine go_iaload (pc' := 29) rfl (o_inK g0) (o_inB g0) rfl ?_
        refine go_iadd (pc' := 30) rfl rfl ?_
        obtain ⟨x2_30, ex2_30, h⟩ := o_b1E h
        refine go_ndI ex2_30 ?_
        refine go_istore_n (pc' := 31) (lo' := [some (.inr (.inr th)), some (.inl a0), some (.inl x2_30), some (.inl v3_4)]) rfl rfl rfl ?_
        obtain ⟨x3_31, ex3_31, h⟩ := o_b1E h
        refine go_iincE (pc' := 34) rfl rfl (y := (nI 1)) rfl ex3_31 (lo' := [some (.inr (.inr th)), some (.inl a0), some (.inl x2_30), some (.inl x3_31)]) rfl rfl ?_
        refine go_goto (pc' := 4) rfl rfl ?_
        exact (lp_backE h hk4 :))
  exact lo4 _ ((nI 0), (nI 0)) hl4 
def m_234_x2_44 (Ix_44 : ai_I) : Option (ai_I) :=
  some Ix_44
def m_234_b2 (th : Nat) (Rf : ai_R) (G : ai_G) (v1_2 : Int32) (I_2 : ai_I) : Option ((Int32 × ai_I) ⊕ ai_I) :=
  if (nI 256) ≤ v1_2 then (some (Sum.inr I_2)) else (o_g (o_in G 13 (Rf th 16) v1_2) (if (I_2 (Rf th 16) v1_2.toNatClampNeg) = (-2147483648 : Int32) then (o_b1 (some (v1_2 + (nI 1))) (fun x1_38 => some (Sum.inl (x1_38, I_2)))) else (o_g (o_in G 13 (Rf th 16) v1_2) (o_b1 (m_233 th v1_2 I_2 Rf G) (fun r_33 => o_g (o_in G 13 (Rf th 16) v1_2) (o_b1 (some (va_up I_2 (Rf th 16) (va_up (I_2 (Rf th 16)) v1_2.toNatClampNeg ((I_2 (Rf th 16) v1_2.toNatClampNeg) + r_33)))) (fun I_37 => o_b1 (some (v1_2 + (nI 1))) (fun x1_38 => some (Sum.inl (x1_38, I_37))))))))))
/-- PricedBasesModel.shifts()V -/
def m_234 (th : Nat) (I : ai_I) (Rf : ai_R) (G : ai_G) : Option (ai_I) :=
  o_s1 (lp (fun s => m_234_b2 th Rf G s.1 s.2) o_N ((nI 0), I)) (fun t => m_234_x2_44 t)
theorem md_234 {d : Nat} {I : ai_I} {J : ai_J} {Rf : ai_R} {G : ai_G} {th : Nat} {I1 : ai_I} (hd : 3 ≤ d) (hth : G.1 th = 11) (h : m_234 th I Rf G = some I1) : ai_Cl si_t si_ms d 234 [.inr (.inr th)] I J Rf G none I1 J Rf G := by
  obtain ⟨e, rfl⟩ : ∃ e, d = e + 1 := ⟨d - 1, by omega⟩
  unfold m_234 at h
  refine sp_in (lo := [some (.inr (.inr th)), none]) (B := (0, 0)) rfl (Nat.le_of_ble_eq_true rfl) rfl rfl ?_
  refine go_iconst (pc' := 1) (v := (nI 0)) rfl rfl rfl ?_
  refine go_istore_n (pc' := 2) (lo' := [some (.inr (.inr th)), some (.inl (nI 0))]) rfl rfl rfl ?_
  obtain ⟨q2, hl2, hc2_44⟩ := o_s1E h
  have ex2_44 : ∀ (Ix_44 : ai_I) (z1_x44 : Option ai_V), Ix_44 = q2 → ai_Go si_t (11, false, 9, cd_234) (ai_Cl si_t si_ms e) (sp_Q none I1 J Rf G) 44 [some (.inr (.inr th)), z1_x44] [] (0, 0) Ix_44 J Rf G := by
    intro Ix_44 z1_x44 hq
    have h : m_234_x2_44 Ix_44 = some I1 := hc2_44 Ix_44 hq.symm
    unfold m_234_x2_44 at h
    cases h
    exact go_vret rfl (rfl) ⟨rfl, rfl, rfl, rfl, rfl⟩
  have lo2 : ∀ n s, lp (fun s => m_234_b2 th Rf G s.1 s.2) n s = some q2 → (fun s => ai_Go si_t (11, false, 9, cd_234) (ai_Cl si_t si_ms e) (sp_Q none I1 J Rf G) 2 [some (.inr (.inr th)), some (.inl s.1)] [] (0, 0) s.2 J Rf G) s := lp_go (fun s x2 hx hk2 => by
    obtain ⟨v1_2, I_2⟩ := s
    have h : m_234_b2 th Rf G v1_2 I_2 = some x2 := hx
    clear hx
    show ai_Go si_t (11, false, 9, cd_234) (ai_Cl si_t si_ms e) (sp_Q none I1 J Rf G) 2 [some (.inr (.inr th)), some (.inl v1_2)] [] (0, 0) I_2 J Rf G
    unfold m_234_b2 at h
    refine go_iload_n (pc' := 3) rfl rfl rfl ?_
    refine go_sipush (pc' := 6) (v := (nI 256)) rfl rfl rfl ?_
    refine go_icmp_ge (pt := 44) (pc' := 9) rfl rfl rfl (fun h6 => ?_) (fun h6 => ?_)
    · replace h := o_t h6 h
      exact ex2_44 _ (some (.inl v1_2)) (lp_exitE h hk2)
    · replace h := o_f h6 h
      refine go_aload_n (pc' := 10) rfl rfl rfl ?_
      refine go_getR (pc' := 13) rfl rfl hth rfl ?_
      refine go_iload_n (pc' := 14) rfl rfl rfl ?_
      obtain ⟨g0, h⟩ := o_gE h
      refine go_iaload (pc' := 15) rfl (o_inK g0) (o_inB g0) rfl ?_
      refine go_ldc (pc' := 17) (v := .inl (-2147483648 : Int32)) rfl rfl rfl ?_
      refine go_icmp_eq (pt := 38) (pc' := 20) rfl rfl rfl (fun h17 => ?_) (fun h17 => ?_)
      · replace h := o_t h17 h
        obtain ⟨x1_38, ex1_38, h⟩ := o_b1E h
        refine go_iincE (pc' := 41) rfl rfl (y := (nI 1)) rfl ex1_38 (lo' := [some (.inr (.inr th)), some (.inl x1_38)]) rfl rfl ?_
        refine go_goto (pc' := 2) rfl rfl ?_
        exact (lp_backE h hk2 :)
      · replace h := o_f h17 h
        refine go_aload_n (pc' := 21) rfl rfl rfl ?_
        refine go_getR (pc' := 24) rfl rfl hth rfl ?_
        refine go_iload_n (pc' := 25) rfl rfl rfl ?_
        refine go_aload_n (pc' := 26) rfl rfl rfl ?_
        refine go_getR (pc' := 29) rfl rfl hth rfl ?_
        refine go_iload_n (pc' := 30) rfl rfl rfl ?_
        obtain ⟨g1, h⟩ := o_gE h
        refine go_iaload (pc' := 31) rfl (o_inK g1) (o_inB g1) rfl ?_
        refine go_aload_n (pc' := 32) rfl rfl rfl ?_
        refine go_iload_n (pc' := 33) rfl rfl rfl ?_
        obtain ⟨r_33, q_33, h⟩ := o_b1E h
        refine go_callV (pc' := 36) (B' := (0, 0)) (st' := [.inl r_33, .inl (I_2 (Rf th 16) v1_2.toNatClampNeg), .inl v1_2, .inr (.inr (Rf th 16))]) rfl rfl (Or.inl (by decide)) rfl rfl hth (md_233 (by omega) hth q_33) rfl rfl rfl ?_
        refine go_iadd (pc' := 37) rfl rfl ?_
        obtain ⟨g2, h⟩ := o_gE h
        obtain ⟨I_37, eI_37, h⟩ := o_b1E h
        refine go_iastore (pc' := 38) rfl (o_inK g2) (o_inB g2) rfl ?_
        refine go_ndMI eI_37 ?_
        obtain ⟨x1_38, ex1_38, h⟩ := o_b1E h
        refine go_iincE (pc' := 41) rfl rfl (y := (nI 1)) rfl ex1_38 (lo' := [some (.inr (.inr th)), some (.inl x1_38)]) rfl rfl ?_
        refine go_goto (pc' := 2) rfl rfl ?_
        exact (lp_backE h hk2 :))
  exact lo2 _ ((nI 0), I) hl2 
def m_235_x20_81 (Ix_81 : ai_I) : Option (ai_I) :=
  some Ix_81
def m_235_x29_75 (v1_20 : Int32) (Ix_75 : ai_I) : Option ((Int32 × ai_I) ⊕ ai_I) :=
  o_b1 (some (v1_20 + (nI 1))) (fun x1_75 => some (Sum.inl (x1_75, Ix_75)))
def m_235_b29 (th : Nat) (Rf : ai_R) (G : ai_G) (v1_20 : Int32) (v2_29 : Int32) (I_29 : ai_I) : Option ((Int32 × ai_I) ⊕ ai_I) :=
  if (nI 8) ≤ v2_29 then (some (Sum.inr I_29)) else (o_g (o_in G 13 (Rf th 17) v1_20) (if (I_29 (Rf th 17) v1_20.toNatClampNeg) = (-2147483648 : Int32) then (o_b1 (some (v2_29 + (nI 1))) (fun x2_69 => some (Sum.inl (x2_69, I_29)))) else (o_b1 (m_192 v1_20 v2_29) (fun r_48 => if r_48 = 0 then (o_b1 (some (v2_29 + (nI 1))) (fun x2_69 => some (Sum.inl (x2_69, I_29)))) else (o_g (o_in G 13 (Rf th 17) v1_20) (o_b1 (m_220 th (v1_20 ^^^ ((nI 1) <<< (v2_29 &&& 31))) (I_29 (Rf th 17) v1_20.toNatClampNeg) I_29 Rf G) (fun I_66 => o_b1 (some (v2_29 + (nI 1))) (fun x2_69 => some (Sum.inl (x2_69, I_66))))))))))
def m_235_b20 (th : Nat) (Rf : ai_R) (G : ai_G) (v1_20 : Int32) (I_20 : ai_I) : Option ((Int32 × ai_I) ⊕ ai_I) :=
  if (nI 256) ≤ v1_20 then (some (Sum.inr I_20)) else (o_s1 (lp (fun s => m_235_b29 th Rf G v1_20 s.1 s.2) o_N ((nI 0), I_20)) (fun t => m_235_x29_75 v1_20 t))
/-- PricedBasesModel.cuts()V -/
def m_235 (th : Nat) (I : ai_I) (Rf : ai_R) (G : ai_G) : Option (ai_I) :=
  o_b1 (m_229 th I Rf G) (fun I_1 => o_b1 (m_219 th (I_1 th 18) ((I_1 th 19) - (nI 1)) I_1 Rf G) (fun I_15 => o_s1 (lp (fun s => m_235_b20 th Rf G s.1 s.2) o_N ((nI 0), I_15)) (fun t => m_235_x20_81 t)))
theorem md_235 {d : Nat} {I : ai_I} {J : ai_J} {Rf : ai_R} {G : ai_G} {th : Nat} {I1 : ai_I} (hd : 2 ≤ d) (hth : G.1 th = 11) (h : m_235 th I Rf G = some I1) : ai_Cl si_t si_ms d 235 [.inr (.inr th)] I J Rf G none I1 J Rf G := by
  obtain ⟨e, rfl⟩ : ∃ e, d = e + 1 := ⟨d - 1, by omega⟩
  unfold m_235 at h
  refine sp_in (lo := [some (.inr (.inr th)), none, none]) (B := (0, 0)) rfl (Nat.le_of_ble_eq_true rfl) rfl rfl ?_
  refine go_aload_n (pc' := 1) rfl rfl rfl ?_
  obtain ⟨I_1, q_1, h⟩ := o_b1E h
  refine go_callV (pc' := 4) (B' := (0, 0)) (st' := []) rfl rfl (Or.inl (by decide)) rfl rfl hth (md_229 (by omega) hth q_1) rfl rfl rfl ?_
  refine go_aload_n (pc' := 5) rfl rfl rfl ?_
  refine go_aload_n (pc' := 6) rfl rfl rfl ?_
  refine go_getI (pc' := 9) rfl rfl (by decide) (by decide) hth rfl ?_
  refine go_aload_n (pc' := 10) rfl rfl rfl ?_
  refine go_getI (pc' := 13) rfl rfl (by decide) (by decide) hth rfl ?_
  refine go_iconst (pc' := 14) (v := (nI 1)) rfl rfl rfl ?_
  refine go_isub (pc' := 15) rfl rfl ?_
  obtain ⟨I_15, q_15, h⟩ := o_b1E h
  refine go_callV (pc' := 18) (B' := (0, 0)) (st' := []) rfl rfl (Or.inl (by decide)) rfl rfl hth (md_219 (by omega) hth q_15) rfl rfl rfl ?_
  refine go_iconst (pc' := 19) (v := (nI 0)) rfl rfl rfl ?_
  refine go_istore_n (pc' := 20) (lo' := [some (.inr (.inr th)), some (.inl (nI 0)), none]) rfl rfl rfl ?_
  obtain ⟨q20, hl20, hc20_81⟩ := o_s1E h
  have ex20_81 : ∀ (Ix_81 : ai_I) (z1_x81 : Option ai_V) (z2_x81 : Option ai_V), Ix_81 = q20 → ai_Go si_t (11, false, 9, cd_235) (ai_Cl si_t si_ms e) (sp_Q none I1 J Rf G) 81 [some (.inr (.inr th)), z1_x81, z2_x81] [] (0, 0) Ix_81 J Rf G := by
    intro Ix_81 z1_x81 z2_x81 hq
    have h : m_235_x20_81 Ix_81 = some I1 := hc20_81 Ix_81 hq.symm
    unfold m_235_x20_81 at h
    cases h
    exact go_vret rfl (rfl) ⟨rfl, rfl, rfl, rfl, rfl⟩
  have lo20 : ∀ n s, lp (fun s => m_235_b20 th Rf G s.1 s.2) n s = some q20 → (fun s => ∀ (z2_20 : Option ai_V), ai_Go si_t (11, false, 9, cd_235) (ai_Cl si_t si_ms e) (sp_Q none I1 J Rf G) 20 [some (.inr (.inr th)), some (.inl s.1), z2_20] [] (0, 0) s.2 J Rf G) s := lp_go (fun s x20 hx hk20 => by
    obtain ⟨v1_20, I_20⟩ := s
    intro z2_20
    have h : m_235_b20 th Rf G v1_20 I_20 = some x20 := hx
    clear hx
    show ai_Go si_t (11, false, 9, cd_235) (ai_Cl si_t si_ms e) (sp_Q none I1 J Rf G) 20 [some (.inr (.inr th)), some (.inl v1_20), z2_20] [] (0, 0) I_20 J Rf G
    unfold m_235_b20 at h
    refine go_iload_n (pc' := 21) rfl rfl rfl ?_
    refine go_sipush (pc' := 24) (v := (nI 256)) rfl rfl rfl ?_
    refine go_icmp_ge (pt := 81) (pc' := 27) rfl rfl rfl (fun h24 => ?_) (fun h24 => ?_)
    · replace h := o_t h24 h
      exact ex20_81 _ (some (.inl v1_20)) z2_20 (lp_exitE h hk20)
    · replace h := o_f h24 h
      refine go_iconst (pc' := 28) (v := (nI 0)) rfl rfl rfl ?_
      refine go_istore_n (pc' := 29) (lo' := [some (.inr (.inr th)), some (.inl v1_20), some (.inl (nI 0))]) rfl rfl rfl ?_
      obtain ⟨q29, hl29, hc29_75⟩ := o_s1E h
      have ex29_75 : ∀ (Ix_75 : ai_I) (z2_x75 : Option ai_V), Ix_75 = q29 → ai_Go si_t (11, false, 9, cd_235) (ai_Cl si_t si_ms e) (sp_Q none I1 J Rf G) 75 [some (.inr (.inr th)), some (.inl v1_20), z2_x75] [] (0, 0) Ix_75 J Rf G := by
        intro Ix_75 z2_x75 hq
        have h : m_235_x29_75 v1_20 Ix_75 = some x20 := hc29_75 Ix_75 hq.symm
        unfold m_235_x29_75 at h
        obtain ⟨x1_75, ex1_75, h⟩ := o_b1E h
        refine go_iincE (pc' := 78) rfl rfl (y := (nI 1)) rfl ex1_75 (lo' := [some (.inr (.inr th)), some (.inl x1_75), z2_x75]) rfl rfl ?_
        refine go_goto (pc' := 20) rfl rfl ?_
        exact (lp_backE h hk20 z2_x75 :)
      have lo29 : ∀ n s, lp (fun s => m_235_b29 th Rf G v1_20 s.1 s.2) n s = some q29 → (fun s => ai_Go si_t (11, false, 9, cd_235) (ai_Cl si_t si_ms e) (sp_Q none I1 J Rf G) 29 [some (.inr (.inr th)), some (.inl v1_20), some (.inl s.1)] [] (0, 0) s.2 J Rf G) s := lp_go (fun s x29 hx hk29 => by
        obtain ⟨v2_29, I_29⟩ := s
        have h : m_235_b29 th Rf G v1_20 v2_29 I_29 = some x29 := hx
        clear hx
        show ai_Go si_t (11, false, 9, cd_235) (ai_Cl si_t si_ms e) (sp_Q none I1 J Rf G) 29 [some (.inr (.inr th)), some (.inl v1_20), some (.inl v2_29)] [] (0, 0) I_29 J Rf G
        unfold m_235_b29 at h
        refine go_iload_n (pc' := 30) rfl rfl rfl ?_
        refine go_bipush (pc' := 32) (v := (nI 8)) rfl rfl rfl ?_
        refine go_icmp_ge (pt := 75) (pc' := 35) rfl rfl rfl (fun h32 => ?_) (fun h32 => ?_)
        · replace h := o_t h32 h
          exact ex29_75 _ (some (.inl v2_29)) (lp_exitE h hk29)
        · replace h := o_f h32 h
          refine go_aload_n (pc' := 36) rfl rfl rfl ?_
          refine go_getR (pc' := 39) rfl rfl hth rfl ?_
          refine go_iload_n (pc' := 40) rfl rfl rfl ?_
          obtain ⟨g0, h⟩ := o_gE h
          refine go_iaload (pc' := 41) rfl (o_inK g0) (o_inB g0) rfl ?_
          refine go_ldc (pc' := 43) (v := .inl (-2147483648 : Int32)) rfl rfl rfl ?_
          refine go_icmp_eq (pt := 69) (pc' := 46) rfl rfl rfl (fun h43 => ?_) (fun h43 => ?_)
          · replace h := o_t h43 h
            obtain ⟨x2_69, ex2_69, h⟩ := o_b1E h
            refine go_iincE (pc' := 72) rfl rfl (y := (nI 1)) rfl ex2_69 (lo' := [some (.inr (.inr th)), some (.inl v1_20), some (.inl x2_69)]) rfl rfl ?_
            refine go_goto (pc' := 29) rfl rfl ?_
            exact (lp_backE h hk29 :)
          · replace h := o_f h43 h
            refine go_iload_n (pc' := 47) rfl rfl rfl ?_
            refine go_iload_n (pc' := 48) rfl rfl rfl ?_
            obtain ⟨r_48, q_48, h⟩ := o_b1E h
            refine go_callS (pc' := 51) (B' := (0, 0)) (st' := [.inl r_48]) rfl rfl (Or.inl (by decide)) rfl rfl trivial (md_192 (by omega) q_48) rfl rfl rfl ?_
            refine go_if_eq (pt := 69) (pc' := 54) rfl rfl rfl (fun h51 => ?_) (fun h51 => ?_)
            · replace h := o_t h51 h
              obtain ⟨x2_69, ex2_69, h⟩ := o_b1E h
              refine go_iincE (pc' := 72) rfl rfl (y := (nI 1)) rfl ex2_69 (lo' := [some (.inr (.inr th)), some (.inl v1_20), some (.inl x2_69)]) rfl rfl ?_
              refine go_goto (pc' := 29) rfl rfl ?_
              exact (lp_backE h hk29 :)
            · replace h := o_f h51 h
              refine go_aload_n (pc' := 55) rfl rfl rfl ?_
              refine go_iload_n (pc' := 56) rfl rfl rfl ?_
              refine go_iconst (pc' := 57) (v := (nI 1)) rfl rfl rfl ?_
              refine go_iload_n (pc' := 58) rfl rfl rfl ?_
              refine go_ishl (pc' := 59) rfl rfl ?_
              refine go_ixor (pc' := 60) rfl rfl ?_
              refine go_aload_n (pc' := 61) rfl rfl rfl ?_
              refine go_getR (pc' := 64) rfl rfl hth rfl ?_
              refine go_iload_n (pc' := 65) rfl rfl rfl ?_
              obtain ⟨g1, h⟩ := o_gE h
              refine go_iaload (pc' := 66) rfl (o_inK g1) (o_inB g1) rfl ?_
              obtain ⟨I_66, q_66, h⟩ := o_b1E h
              refine go_callV (pc' := 69) (B' := (0, 0)) (st' := []) rfl rfl (Or.inl (by decide)) rfl rfl hth (md_220 (by omega) hth q_66) rfl rfl rfl ?_
              obtain ⟨x2_69, ex2_69, h⟩ := o_b1E h
              refine go_iincE (pc' := 72) rfl rfl (y := (nI 1)) rfl ex2_69 (lo' := [some (.inr (.inr th)), some (.inl v1_20), some (.inl x2_69)]) rfl rfl ?_
              refine go_goto (pc' := 29) rfl rfl ?_
              exact (lp_backE h hk29 :))
      exact lo29 _ ((nI 0), I_20) hl29 )
  exact lo20 _ ((nI 0), I_15) hl20 none
def m_236_x43_125 (Ix_125 : ai_I) : Option (ai_I) :=
  some Ix_125
def m_236_x55_119 (v3_43 : Int32) (Ix_119 : ai_I) : Option ((Int32 × ai_I) ⊕ ai_I) :=
  o_b1 (some (v3_43 + (nI 1))) (fun x3_119 => some (Sum.inl (x3_119, Ix_119)))
def m_236_b55 (th : Nat) (a0 : Int32) (a1 : Int32) (Rf : ai_R) (G : ai_G) (v3_43 : Int32) (v4_55 : Int32) (I_55 : ai_I) : Option ((Int32 × ai_I) ⊕ ai_I) :=
  o_b1 (m_197 th a1 I_55 Rf G) (fun r_59 => if r_59 < v4_55 then (some (Sum.inr I_55)) else (o_b1 (m_199 th a0 v3_43 I_55 Rf G) (fun r_68 => if r_68 = 0 then (o_b1 (some (v4_55 + (nI 1))) (fun x4_113 => some (Sum.inl (x4_113, I_55)))) else (o_b1 (m_199 th a1 v4_55 I_55 Rf G) (fun r_78 => if r_78 = 0 then (o_b1 (some (v4_55 + (nI 1))) (fun x4_113 => some (Sum.inl (x4_113, I_55)))) else (o_b1 (m_195 th a0 I_55 Rf G) (fun r_93 => o_b1 (m_198 th a0 v3_43 I_55 Rf G) (fun r_101 => o_b1 (m_198 th a1 v4_55 I_55 Rf G) (fun r_108 => o_g (o_in G 13 (Rf th 16) (v3_43 ||| (v4_55 <<< (r_93 &&& 31)))) (o_b1 (some (va_up I_55 (Rf th 16) (va_up (I_55 (Rf th 16)) (v3_43 ||| (v4_55 <<< (r_93 &&& 31))).toNatClampNeg (r_101 + r_108)))) (fun I_112 => o_b1 (some (v4_55 + (nI 1))) (fun x4_113 => some (Sum.inl (x4_113, I_112))))))))))))))
def m_236_b43 (th : Nat) (a0 : Int32) (a1 : Int32) (Rf : ai_R) (G : ai_G) (v3_43 : Int32) (I_43 : ai_I) : Option ((Int32 × ai_I) ⊕ ai_I) :=
  o_b1 (m_197 th a0 I_43 Rf G) (fun r_46 => if r_46 < v3_43 then (some (Sum.inr I_43)) else (o_s1 (lp (fun s => m_236_b55 th a0 a1 Rf G v3_43 s.1 s.2) o_N ((nI 0), I_43)) (fun t => m_236_x55_119 v3_43 t)))
/-- PricedBasesModel.makesPlus(II)V -/
def m_236 (th : Nat) (a0 : Int32) (a1 : Int32) (I : ai_I) (Rf : ai_R) (G : ai_G) : Option (ai_I) :=
  o_b1 (m_195 th a0 I Rf G) (fun r_5 => o_b1 (m_195 th a1 I Rf G) (fun r_10 => o_b1 (m_190 (nI 9) (r_5 + r_10)) (fun r_14 => o_b1 (m_196 th a0 I Rf G) (fun r_19 => o_b1 (m_196 th a1 I Rf G) (fun r_24 => o_b1 (m_219 th r_14 (r_19 + r_24) I Rf G) (fun I_28 => if (I_28 th 18) ≤ (nI 8) then (o_s1 (lp (fun s => m_236_b43 th a0 a1 Rf G s.1 s.2) o_N ((nI 0), I_28)) (fun t => m_236_x43_125 t)) else (some I_28)))))))
theorem md_236 {d : Nat} {I : ai_I} {J : ai_J} {Rf : ai_R} {G : ai_G} {th : Nat} {a0 : Int32} {a1 : Int32} {I1 : ai_I} (hd : 3 ≤ d) (hth : G.1 th = 11) (h : m_236 th a0 a1 I Rf G = some I1) : ai_Cl si_t si_ms d 236 [.inr (.inr th), .inl a0, .inl a1] I J Rf G none I1 J Rf G := by
  obtain ⟨e, rfl⟩ : ∃ e, d = e + 1 := ⟨d - 1, by omega⟩
  unfold m_236 at h
  refine sp_in (lo := [some (.inr (.inr th)), some (.inl a0), some (.inl a1), none, none]) (B := (0, 0)) rfl (Nat.le_of_ble_eq_true rfl) rfl rfl ?_
  refine go_aload_n (pc' := 1) rfl rfl rfl ?_
  refine go_bipush (pc' := 3) (v := (nI 9)) rfl rfl rfl ?_
  refine go_aload_n (pc' := 4) rfl rfl rfl ?_
  refine go_iload_n (pc' := 5) rfl rfl rfl ?_
  obtain ⟨r_5, q_5, h⟩ := o_b1E h
  refine go_callV (pc' := 8) (B' := (0, 0)) (st' := [.inl r_5, .inl (nI 9), .inr (.inr th)]) rfl rfl (Or.inl (by decide)) rfl rfl hth (md_195 (by omega) hth q_5) rfl rfl rfl ?_
  refine go_aload_n (pc' := 9) rfl rfl rfl ?_
  refine go_iload_n (pc' := 10) rfl rfl rfl ?_
  obtain ⟨r_10, q_10, h⟩ := o_b1E h
  refine go_callV (pc' := 13) (B' := (0, 0)) (st' := [.inl r_10, .inl r_5, .inl (nI 9), .inr (.inr th)]) rfl rfl (Or.inl (by decide)) rfl rfl hth (md_195 (by omega) hth q_10) rfl rfl rfl ?_
  refine go_iadd (pc' := 14) rfl rfl ?_
  obtain ⟨r_14, q_14, h⟩ := o_b1E h
  refine go_callS (pc' := 17) (B' := (0, 0)) (st' := [.inl r_14, .inr (.inr th)]) rfl rfl (Or.inl (by decide)) rfl rfl trivial (md_190 (by omega) q_14) rfl rfl rfl ?_
  refine go_aload_n (pc' := 18) rfl rfl rfl ?_
  refine go_iload_n (pc' := 19) rfl rfl rfl ?_
  obtain ⟨r_19, q_19, h⟩ := o_b1E h
  refine go_callV (pc' := 22) (B' := (0, 0)) (st' := [.inl r_19, .inl r_14, .inr (.inr th)]) rfl rfl (Or.inl (by decide)) rfl rfl hth (md_196 (by omega) hth q_19) rfl rfl rfl ?_
  refine go_aload_n (pc' := 23) rfl rfl rfl ?_
  refine go_iload_n (pc' := 24) rfl rfl rfl ?_
  obtain ⟨r_24, q_24, h⟩ := o_b1E h
  refine go_callV (pc' := 27) (B' := (0, 0)) (st' := [.inl r_24, .inl r_19, .inl r_14, .inr (.inr th)]) rfl rfl (Or.inl (by decide)) rfl rfl hth (md_196 (by omega) hth q_24) rfl rfl rfl ?_
  refine go_iadd (pc' := 28) rfl rfl ?_
  obtain ⟨I_28, q_28, h⟩ := o_b1E h
  refine go_callV (pc' := 31) (B' := (0, 0)) (st' := []) rfl rfl (Or.inl (by decide)) rfl rfl hth (md_219 (by omega) hth q_28) rfl rfl rfl ?_
  refine go_aload_n (pc' := 32) rfl rfl rfl ?_
  refine go_getI (pc' := 35) rfl rfl (by decide) (by decide) hth rfl ?_
  refine go_bipush (pc' := 37) (v := (nI 8)) rfl rfl rfl ?_
  refine go_icmp_le (pt := 41) (pc' := 40) rfl rfl rfl (fun h37 => ?_) (fun h37 => ?_)
  · replace h := o_t h37 h
    refine go_iconst (pc' := 42) (v := (nI 0)) rfl rfl rfl ?_
    refine go_istore_n (pc' := 43) (lo' := [some (.inr (.inr th)), some (.inl a0), some (.inl a1), some (.inl (nI 0)), none]) rfl rfl rfl ?_
    obtain ⟨q43, hl43, hc43_125⟩ := o_s1E h
    have ex43_125 : ∀ (Ix_125 : ai_I) (z3_x125 : Option ai_V) (z4_x125 : Option ai_V), Ix_125 = q43 → ai_Go si_t (11, false, 9, cd_236) (ai_Cl si_t si_ms e) (sp_Q none I1 J Rf G) 125 [some (.inr (.inr th)), some (.inl a0), some (.inl a1), z3_x125, z4_x125] [] (0, 0) Ix_125 J Rf G := by
      intro Ix_125 z3_x125 z4_x125 hq
      have h : m_236_x43_125 Ix_125 = some I1 := hc43_125 Ix_125 hq.symm
      unfold m_236_x43_125 at h
      cases h
      exact go_vret rfl (rfl) ⟨rfl, rfl, rfl, rfl, rfl⟩
    have lo43 : ∀ n s, lp (fun s => m_236_b43 th a0 a1 Rf G s.1 s.2) n s = some q43 → (fun s => ∀ (z4_43 : Option ai_V), ai_Go si_t (11, false, 9, cd_236) (ai_Cl si_t si_ms e) (sp_Q none I1 J Rf G) 43 [some (.inr (.inr th)), some (.inl a0), some (.inl a1), some (.inl s.1), z4_43] [] (0, 0) s.2 J Rf G) s := lp_go (fun s x43 hx hk43 => by
      obtain ⟨v3_43, I_43⟩ := s
      intro z4_43
      have h : m_236_b43 th a0 a1 Rf G v3_43 I_43 = some x43 := hx
      clear hx
      show ai_Go si_t (11, false, 9, cd_236) (ai_Cl si_t si_ms e) (sp_Q none I1 J Rf G) 43 [some (.inr (.inr th)), some (.inl a0), some (.inl a1), some (.inl v3_43), z4_43] [] (0, 0) I_43 J Rf G
      unfold m_236_b43 at h
      refine go_iload_n (pc' := 44) rfl rfl rfl ?_
      refine go_aload_n (pc' := 45) rfl rfl rfl ?_
      refine go_iload_n (pc' := 46) rfl rfl rfl ?_
      obtain ⟨r_46, q_46, h⟩ := o_b1E h
      refine go_callV (pc' := 49) (B' := (0, 0)) (st' := [.inl r_46, .inl v3_43]) rfl rfl (Or.inl (by decide)) rfl rfl hth (md_197 (by omega) hth q_46) rfl rfl rfl ?_
      refine go_icmp_gt (pt := 125) (pc' := 52) rfl rfl rfl (fun h49 => ?_) (fun h49 => ?_)
      · replace h := o_t h49 h
        exact ex43_125 _ (some (.inl v3_43)) z4_43 (lp_exitE h hk43)
      · replace h := o_f h49 h
        refine go_iconst (pc' := 53) (v := (nI 0)) rfl rfl rfl ?_
        refine go_istore (pc' := 55) (lo' := [some (.inr (.inr th)), some (.inl a0), some (.inl a1), some (.inl v3_43), some (.inl (nI 0))]) rfl rfl rfl ?_
        obtain ⟨q55, hl55, hc55_119⟩ := o_s1E h
        have ex55_119 : ∀ (Ix_119 : ai_I) (z4_x119 : Option ai_V), Ix_119 = q55 → ai_Go si_t (11, false, 9, cd_236) (ai_Cl si_t si_ms e) (sp_Q none I1 J Rf G) 119 [some (.inr (.inr th)), some (.inl a0), some (.inl a1), some (.inl v3_43), z4_x119] [] (0, 0) Ix_119 J Rf G := by
          intro Ix_119 z4_x119 hq
          have h : m_236_x55_119 v3_43 Ix_119 = some x43 := hc55_119 Ix_119 hq.symm
          unfold m_236_x55_119 at h
          obtain ⟨x3_119, ex3_119, h⟩ := o_b1E h
          refine go_iincE (pc' := 122) rfl rfl (y := (nI 1)) rfl ex3_119 (lo' := [some (.inr (.inr th)), some (.inl a0), some (.inl a1), some (.inl x3_119), z4_x119]) rfl rfl ?_
          refine go_goto (pc' := 43) rfl rfl ?_
          exact (lp_backE h hk43 z4_x119 :)
        have lo55 : ∀ n s, lp (fun s => m_236_b55 th a0 a1 Rf G v3_43 s.1 s.2) n s = some q55 → (fun s => ai_Go si_t (11, false, 9, cd_236) (ai_Cl si_t si_ms e) (sp_Q none I1 J Rf G) 55 [some (.inr (.inr th)), some (.inl a0), some (.inl a1), some (.inl v3_43), some (.inl s.1)] [] (0, 0) s.2 J Rf G) s := lp_go (fun s x55 hx hk55 => by
          obtain ⟨v4_55, I_55⟩ := s
          have h : m_236_b55 th a0 a1 Rf G v3_43 v4_55 I_55 = some x55 := hx
          clear hx
          show ai_Go si_t (11, false, 9, cd_236) (ai_Cl si_t si_ms e) (sp_Q none I1 J Rf G) 55 [some (.inr (.inr th)), some (.inl a0), some (.inl a1), some (.inl v3_43), some (.inl v4_55)] [] (0, 0) I_55 J Rf G
          unfold m_236_b55 at h
          refine go_iload (pc' := 57) rfl rfl rfl ?_
          refine go_aload_n (pc' := 58) rfl rfl rfl ?_
          refine go_iload_n (pc' := 59) rfl rfl rfl ?_
          obtain ⟨r_59, q_59, h⟩ := o_b1E h
          refine go_callV (pc' := 62) (B' := (0, 0)) (st' := [.inl r_59, .inl v4_55]) rfl rfl (Or.inl (by decide)) rfl rfl hth (md_197 (by omega) hth q_59) rfl rfl rfl ?_
          refine go_icmp_gt (pt := 119) (pc' := 65) rfl rfl rfl (fun h62 => ?_) (fun h62 => ?_)
          · replace h := o_t h62 h
            exact ex55_119 _ (some (.inl v4_55)) (lp_exitE h hk55)
          · replace h := o_f h62 h
            refine go_aload_n (pc' := 66) rfl rfl rfl ?_
            refine go_iload_n (pc' := 67) rfl rfl rfl ?_
            refine go_iload_n (pc' := 68) rfl rfl rfl ?_
            obtain ⟨r_68, q_68, h⟩ := o_b1E h
            refine go_callV (pc' := 71) (B' := (0, 0)) (st' := [.inl r_68]) rfl rfl (Or.inl (by decide)) rfl rfl hth (md_199 (by omega) hth q_68) rfl rfl rfl ?_
            refine go_if_eq (pt := 113) (pc' := 74) rfl rfl rfl (fun h71 => ?_) (fun h71 => ?_)
            · replace h := o_t h71 h
              obtain ⟨x4_113, ex4_113, h⟩ := o_b1E h
              refine go_iincE (pc' := 116) rfl rfl (y := (nI 1)) rfl ex4_113 (lo' := [some (.inr (.inr th)), some (.inl a0), some (.inl a1), some (.inl v3_43), some (.inl x4_113)]) rfl rfl ?_
              refine go_goto (pc' := 55) rfl rfl ?_
              exact (lp_backE h hk55 :)
            · replace h := o_f h71 h
              refine go_aload_n (pc' := 75) rfl rfl rfl ?_
              refine go_iload_n (pc' := 76) rfl rfl rfl ?_
              refine go_iload (pc' := 78) rfl rfl rfl ?_
              obtain ⟨r_78, q_78, h⟩ := o_b1E h
              refine go_callV (pc' := 81) (B' := (0, 0)) (st' := [.inl r_78]) rfl rfl (Or.inl (by decide)) rfl rfl hth (md_199 (by omega) hth q_78) rfl rfl rfl ?_
              refine go_if_eq (pt := 113) (pc' := 84) rfl rfl rfl (fun h81 => ?_) (fun h81 => ?_)
              · replace h := o_t h81 h
                obtain ⟨x4_113, ex4_113, h⟩ := o_b1E h
                refine go_iincE (pc' := 116) rfl rfl (y := (nI 1)) rfl ex4_113 (lo' := [some (.inr (.inr th)), some (.inl a0), some (.inl a1), some (.inl v3_43), some (.inl x4_113)]) rfl rfl ?_
                refine go_goto (pc' := 55) rfl rfl ?_
                exact (lp_backE h hk55 :)
              · replace h := o_f h81 h
                refine go_aload_n (pc' := 85) rfl rfl rfl ?_
                refine go_getR (pc' := 88) rfl rfl hth rfl ?_
                refine go_iload_n (pc' := 89) rfl rfl rfl ?_
                refine go_iload (pc' := 91) rfl rfl rfl ?_
                refine go_aload_n (pc' := 92) rfl rfl rfl ?_
                refine go_iload_n (pc' := 93) rfl rfl rfl ?_
                obtain ⟨r_93, q_93, h⟩ := o_b1E h
                refine go_callV (pc' := 96) (B' := (0, 0)) (st' := [.inl r_93, .inl v4_55, .inl v3_43, .inr (.inr (Rf th 16))]) rfl rfl (Or.inl (by decide)) rfl rfl hth (md_195 (by omega) hth q_93) rfl rfl rfl ?_
                refine go_ishl (pc' := 97) rfl rfl ?_
                refine go_ior (pc' := 98) rfl rfl ?_
                refine go_aload_n (pc' := 99) rfl rfl rfl ?_
                refine go_iload_n (pc' := 100) rfl rfl rfl ?_
                refine go_iload_n (pc' := 101) rfl rfl rfl ?_
                obtain ⟨r_101, q_101, h⟩ := o_b1E h
                refine go_callV (pc' := 104) (B' := (0, 0)) (st' := [.inl r_101, .inl (v3_43 ||| (v4_55 <<< (r_93 &&& 31))), .inr (.inr (Rf th 16))]) rfl rfl (Or.inl (by decide)) rfl rfl hth (md_198 (by omega) hth q_101) rfl rfl rfl ?_
                refine go_aload_n (pc' := 105) rfl rfl rfl ?_
                refine go_iload_n (pc' := 106) rfl rfl rfl ?_
                refine go_iload (pc' := 108) rfl rfl rfl ?_
                obtain ⟨r_108, q_108, h⟩ := o_b1E h
                refine go_callV (pc' := 111) (B' := (0, 0)) (st' := [.inl r_108, .inl r_101, .inl (v3_43 ||| (v4_55 <<< (r_93 &&& 31))), .inr (.inr (Rf th 16))]) rfl rfl (Or.inl (by decide)) rfl rfl hth (md_198 (by omega) hth q_108) rfl rfl rfl ?_
                refine go_iadd (pc' := 112) rfl rfl ?_
                obtain ⟨g0, h⟩ := o_gE h
                obtain ⟨I_112, eI_112, h⟩ := o_b1E h
                refine go_iastore (pc' := 113) rfl (o_inK g0) (o_inB g0) rfl ?_
                refine go_ndMI eI_112 ?_
                obtain ⟨x4_113, ex4_113, h⟩ := o_b1E h
                refine go_iincE (pc' := 116) rfl rfl (y := (nI 1)) rfl ex4_113 (lo' := [some (.inr (.inr th)), some (.inl a0), some (.inl a1), some (.inl v3_43), some (.inl x4_113)]) rfl rfl ?_
                refine go_goto (pc' := 55) rfl rfl ?_
                exact (lp_backE h hk55 :))
        exact lo55 _ ((nI 0), I_43) hl55 )
    exact lo43 _ ((nI 0), I_28) hl43 none
  · replace h := o_f h37 h
    cases h
    exact go_vret rfl (rfl) ⟨rfl, rfl, rfl, rfl, rfl⟩
